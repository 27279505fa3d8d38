import java.nio.charset.StandardCharsets;

/** What the tests share: counting wrong answers, and telling texts. */
final class Probe {
    private static int wrong;
    private static int asked;

    private Probe() {
    }

    static void due(String call, long got, long want) {
        asked++;
        if (got != want) {
            wrong++;
            System.out.println(call + " answered " + got + ", due is " + want);
        }
    }

    static void due(String call, boolean got, boolean want) {
        due(call, got ? 1 : 0, want ? 1 : 0);
    }

    /** Puts a text on an empty tape. */
    static void tape(HueRash x, String text) {
        x.end(0);
        byte[] bytes = text.getBytes(StandardCharsets.ISO_8859_1);
        for (int k = 0; k < bytes.length; k += 20) {
            int[] n = new int[5];
            for (int j = 0; j < 20; j++) {
                n[j / 4] = n[j / 4] << 8 | (k + j < bytes.length ? bytes[k + j] & 255 : 32);
            }
            due("feed", x.feed(n[0], n[1], n[2], n[3], n[4]), k + 20);
        }
        due("end", x.end(bytes.length), bytes.length);
    }

    static int tell(HueRash x, int sort, String text) {
        tape(x, text);
        return x.text(sort, HueRash.NONE);
    }

    static void told(HueRash x, int sort, String text, int number) {
        due("text " + text, tell(x, sort, text), number);
    }

    /** The text must have this fault. */
    static void faulty(int sort, String text, int fault, int place) {
        HueRash x = new HueRash();
        due("text " + text, tell(x, sort, text), fault == 0 ? 0 : -1);
        due("fault of " + text, x.fault(0), fault);
        due("place of " + text, x.fault(1), place);
        due("count after " + text, x.count(sort), fault == 0 ? 1 : 0);
        due("tape after " + text, x.end(1), -1);
    }

    static void finish(String test) {
        System.out.println(test + ": " + asked + " answers, " + wrong + " wrong");
        if (wrong != 0) {
            System.exit(1);
        }
    }
}
