import java.lang.management.ManagementFactory;
import java.nio.charset.StandardCharsets;

/** All calls of one run share one room: an object's rows are made with it, and no call makes anything. */
public final class RoomTest {
    private static final int LEAST_OBJECT = 1000;
    /** Some 100,000 fields and elements: objects by the dozen fit into the room. */
    private static final int MOST_OBJECT = 400_000;
    /** What the machine itself may need meanwhile. */
    private static final int MOST_CALLS = 2_000;

    private static final String[] TEXTS = {"hue 5 0 0;hue 0 5 0;hue 2 0 0;hue 9 9 9;gap 0 5;like 1;pair 1 2;likes 1 2 3;",
        "picture 0 4;picture 1 2;picture 2 1;picture 3 3;limit 0;", "hang 0 3;wear 0 1;enter 0 3;hour;hang 1 3;hour;",
        "sneezed 0 1;calm 0 2;", "guest 0 2;guest 1 2;guest 3 1;guest 0;"};

    private static long sum;

    public static void main(String[] args) {
        if (!(ManagementFactory.getThreadMXBean() instanceof com.sun.management.ThreadMXBean meter)
            || !meter.isThreadAllocatedMemorySupported() || !meter.isThreadAllocatedMemoryEnabled()) {
            System.out.println("RoomTest: this machine can't tell");
            return;
        }
        long self = Thread.currentThread().getId();
        int[][] tapes = new int[TEXTS.length][];
        for (int sort = 0; sort < TEXTS.length; sort++) {
            tapes[sort] = tapeOf(TEXTS[sort]);
        }
        // what the machine makes when it meets a class for the first time is not the calls' own
        all(new HueRash(), tapes);
        meter.getThreadAllocatedBytes(self);
        long before = meter.getThreadAllocatedBytes(self);
        HueRash x = new HueRash();
        long made = meter.getThreadAllocatedBytes(self);
        all(x, tapes);
        long after = meter.getThreadAllocatedBytes(self);
        boolean fine = made - before > LEAST_OBJECT && made - before < MOST_OBJECT && after - made < MOST_CALLS;
        System.out.println("RoomTest: an object of " + (made - before) + " bytes, its calls made " + (after - made)
            + (fine ? "" : ": too much") + (sum == 0 ? " (no answers)" : ""));
        if (!fine || sum == 0) {
            System.exit(1);
        }
    }

    /** How many bytes it has, and its numbers of four bytes. */
    private static int[] tapeOf(String text) {
        byte[] bytes = text.getBytes(StandardCharsets.ISO_8859_1);
        int[] tape = new int[1 + 5 * ((bytes.length + 19) / 20)];
        tape[0] = bytes.length;
        for (int k = 0; k < bytes.length; k++) {
            tape[1 + k / 4] |= (bytes[k] & 255) << 24 - 8 * (k % 4);
        }
        return tape;
    }

    private static void all(HueRash x, int[][] tapes) {
        for (int turn = 0; turn < 4; turn++) {
            for (int sort = 0; sort < tapes.length; sort++) {
                tell(x, tapes[sort], sort, turn < 2 ? HueRash.NONE : turn - 2);
            }
            for (int k = -1; k < 3; k++) {
                askPalette(x, k);
                askGallery(x, k);
                askOthers(x, k);
            }
            sum += x.image(turn) ? 1 : 0;
            sum += x.again(turn) ? 1 : 0;
        }
    }

    private static void tell(HueRash x, int[] tape, int sort, int at) {
        for (int k = 1; k < tape.length; k += 5) {
            sum += x.feed(tape[k], tape[k + 1], tape[k + 2], tape[k + 3], tape[k + 4]);
        }
        sum += x.end(tape[0]);
        sum += x.text(sort, at);
        sum += x.fault(0) + x.count(sort);
    }

    private static void askPalette(HueRash x, int k) {
        sum += x.palette(0, 2 + k) + x.rule(0, k, 1) + x.strength(0, 0, k) + x.minds(0, k, 1, 2, 3);
        sum += x.loom(0, 15) + x.thread(0, 15, k) + x.mix(0, 0, 2, k) + x.mix(0, 3, 15, k);
        sum += x.flags(0, k) + x.gain(0, k, 12) + x.rest(0, k) + x.spread(0, k, k == 1);
    }

    private static void askGallery(HueRash x, int k) {
        sum += x.gallery(0, k) + x.deed(0, k, 0) + x.stop(0, 0, 0) + x.state(0, 0, 0, 6, k) + x.state(0, 0, 0, 4, 60 + k);
        sum += x.hung(0, 0, k) + x.hung(0, 0, 2 + k) + x.rows(0, 0) + x.row(0, 0, k);
        sum += x.repainted(0, 0, 0) + x.repainted(0, 0, 10 + k);
    }

    private static void askOthers(HueRash x, int k) {
        sum += x.sneeze(0, k, 0) + x.fits(0, 0, k, 0) + x.fits(0, 0, -1, k) + x.guest(0, k) + x.ways(0, 0);
        sum += x.dinner(0, 0, 0) + x.dinner(0, 0, 10 + k) + x.drawn(0, 0, k, 40, 0) + x.drawn(0, 0, k, 40, 1);
    }
}
