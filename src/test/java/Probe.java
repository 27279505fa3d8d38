import java.lang.reflect.Method;
import java.lang.reflect.Modifier;
import java.nio.charset.StandardCharsets;
import java.util.TreeMap;
import java.util.TreeSet;

/** What the tests share: counting wrong answers, telling texts, running all tests of a class by their names. */
final class Probe {
    private static int wrong;
    private static int asked;
    /** The test that runs, if it has a name. */
    private static String test = "";

    private Probe() {
    }

    static void due(String call, long got, long want) {
        asked++;
        if (got != want) {
            wrong++;
            System.out.println(test + call + " answered " + got + ", due is " + want);
        }
    }

    static void due(String call, boolean got, boolean want) {
        due(call, got ? 1 : 0, want ? 1 : 0);
    }

    /** Puts a text on an empty tape. */
    static void tape(HueRash x, String text) {
        x.end(0);
        byte[] bytes = text.getBytes(StandardCharsets.ISO_8859_1);
        for (int k = 0; k < bytes.length; k += 20) {
            int[] n = new int[5];
            for (int j = 0; j < 20; j++) {
                n[j / 4] = n[j / 4] << 8 | (k + j < bytes.length ? bytes[k + j] & 255 : 32);
            }
            due("feed", x.feed(n[0], n[1], n[2], n[3], n[4]), k + 20);
        }
        due("end", x.end(bytes.length), bytes.length);
    }

    static int tell(HueRash x, int sort, String text) {
        tape(x, text);
        return x.text(sort, HueRash.NONE);
    }

    static void told(HueRash x, int sort, String text, int number) {
        due("text " + text, tell(x, sort, text), number);
    }

    /** The text must have this fault. */
    static void faulty(int sort, String text, int fault, int place) {
        HueRash x = new HueRash();
        due("text " + text, tell(x, sort, text), fault == 0 ? 0 : -1);
        due("fault of " + text, x.fault(0), fault);
        due("place of " + text, x.fault(1), place);
        due("count after " + text, x.count(sort), fault == 0 ? 1 : 0);
        due("tape after " + text, x.end(1), -1);
    }

    static void fine(int sort, String text) {
        faulty(sort, text, 0, -1);
    }

    /** An object with a text of each sort, the palette first; null: none of that sort. */
    static HueRash world(String... texts) {
        HueRash x = new HueRash();
        for (int sort = 0; sort < texts.length; sort++) {
            if (texts[sort] != null) {
                told(x, sort, texts[sort], 0);
            }
        }
        return x;
    }

    /** Tells a text in the place of another one. */
    static void retold(HueRash x, int sort, int at, String text) {
        tape(x, text);
        due("text in place " + at + ": " + text, x.text(sort, at), at);
    }

    /** Runs each static method that is named by its promise (p01.. to p33..); answers which promises have one. */
    static TreeSet<Integer> runNamed(Class<?> tests) throws ReflectiveOperationException {
        TreeMap<String, Method> named = new TreeMap<>();
        TreeSet<Integer> promises = new TreeSet<>();
        for (Method m : tests.getDeclaredMethods()) {
            boolean own = Modifier.isStatic(m.getModifiers()) && m.getParameterCount() == 0;
            if (own && m.getName().matches("p[0-9][0-9]_\\w+")) {
                named.put(m.getName(), m);
                promises.add(Integer.parseInt(m.getName().substring(1, 3)));
            }
        }
        for (Method m : named.values()) {
            test = m.getName() + ": ";
            int before = asked;
            m.invoke(null);
            due("asks something", asked > before, true);
        }
        test = "";
        System.out.println(tests.getSimpleName() + ": " + named.size() + " tests");
        return promises;
    }

    static void finish(String test) {
        System.out.println(test + ": " + asked + " answers, " + wrong + " wrong");
        if (wrong != 0) {
            System.exit(1);
        }
    }
}
