import java.nio.charset.StandardCharsets;
import java.util.Random;

/** Random runs of calls, each call held against PlainHues. Arguments: first seed, how many seeds. */
public final class CrossTest {
    private static final int CALLS = 512;
    private static int wrong;
    private static long answers;

    private final Random random;
    private final long seed;
    private final HueRash mine = new HueRash();
    private final PlainHues plain = new PlainHues();
    private final StringBuilder log = new StringBuilder();
    private int calls;

    private CrossTest(long seed) {
        this.seed = seed;
        random = new Random(seed);
    }

    public static void main(String[] args) {
        long first = args.length > 0 ? Long.parseLong(args[0]) : 1;
        long seeds = args.length > 1 ? Long.parseLong(args[1]) : 150;
        for (long s = first; s < first + seeds && wrong == 0; s++) {
            new CrossTest(s).run();
        }
        System.out.println("CrossTest: " + answers + " answers, " + wrong + " wrong");
        if (wrong != 0) {
            System.exit(1);
        }
    }

    private void run() {
        for (int k = 0; k < 2; k++) {
            for (int sort = 0; sort < 5; sort++) {
                tell(sort, -1, random.nextInt(20) == 0);
            }
        }
        while (calls < CALLS - 40 && wrong == 0) {
            int r = random.nextInt(100);
            if (r < 5) {
                int at = random.nextInt(8) == 0 ? -1 : random.nextInt(2);
                tell(random.nextInt(5), random.nextInt(8) == 0 ? odd() : at, random.nextInt(4) == 0);
            } else if (r < 7) {
                int k = random.nextInt(8) == 0 ? odd() : random.nextInt(3);
                same("image " + k, mine.image(k) ? 1 : 0, plain.image(k) ? 1 : 0);
            } else if (r < 9) {
                int k = random.nextInt(8) == 0 ? odd() : random.nextInt(3);
                same("again " + k, mine.again(k) ? 1 : 0, plain.again(k) ? 1 : 0);
            } else if (r < 12) {
                tapeCall();
            } else {
                ask(random.nextInt(27));
            }
        }
    }

    private void same(String call, long got, long want) {
        calls++;
        answers++;
        log.append(call).append(" = ").append(want).append('\n');
        if (got != want) {
            wrong++;
            System.out.println("seed " + seed + ":\n" + log + "but answered " + got);
        }
    }

    private void tapeCall() {
        if (random.nextBoolean()) {
            int n = random.nextInt(40) - 5;
            same("end " + n, mine.end(n), plain.end(n));
        } else {
            feed(random.nextInt(), random.nextInt(), random.nextInt(), random.nextInt(), random.nextInt());
        }
    }

    private void feed(int a, int b, int c, int d, int e) {
        same("feed", mine.feed(a, b, c, d, e), plain.feed(a, b, c, d, e));
    }

    private void tell(int sort, int at, boolean spoilt) {
        String text = write(sort);
        if (spoilt) {
            text = spoil(text);
        }
        if (random.nextInt(3) != 0) {
            same("end 0", mine.end(0), plain.end(0));
        }
        byte[] bytes = text.getBytes(StandardCharsets.ISO_8859_1);
        if (bytes.length > 600) {
            return;
        }
        int before = plain.feed(0, 0, 0, 0, 0) - 20;
        before = before < 0 ? 600 : before;
        plain.end(before);
        for (int k = 0; k < bytes.length; k += 20) {
            int[] n = new int[5];
            for (int j = 0; j < 20; j++) {
                n[j / 4] = n[j / 4] << 8 | (k + j < bytes.length ? bytes[k + j] & 255 : 32);
            }
            feed(n[0], n[1], n[2], n[3], n[4]);
        }
        int n = before + bytes.length;
        same("end " + n, mine.end(n), plain.end(n));
        log.append(text).append('\n');
        same("text " + sort + " " + at, mine.text(sort, at), plain.text(sort, at));
        same("fault 0", mine.fault(0), plain.fault(0));
        same("fault 1", mine.fault(1), plain.fault(1));
    }

    private String spoil(String text) {
        StringBuilder b = new StringBuilder(text);
        for (int k = random.nextInt(3); k >= 0 && b.length() > 0; k--) {
            int at = random.nextInt(b.length());
            switch (random.nextInt(4)) {
                case 0 -> b.setCharAt(at, "0123456789; \nhuesgapt\t".charAt(random.nextInt(22)));
                case 1 -> b.deleteCharAt(at);
                case 2 -> b.insert(at, "0123456789; \nlikesumX".charAt(random.nextInt(21)));
                default -> {
                    if (random.nextInt(4) == 0) {
                        b.setLength(at);
                    } else {
                        b.insert(at, (char) random.nextInt(256));
                    }
                }
            }
        }
        return b.toString();
    }

    private int upTo(int most) {
        return random.nextInt(most + 1);
    }

    private String write(int sort) {
        StringBuilder b = new StringBuilder();
        switch (sort) {
            case 0 -> writePalette(b);
            case 1 -> {
                int pictures = random.nextInt(12) == 0 ? 9 + random.nextInt(5) / 4 : random.nextInt(3) == 0 ? upTo(3) : 4 + upTo(3);
                int hues = random.nextInt(8) == 0 ? 10 : 4;
                for (int k = 0; k < pictures; k++) {
                    line(b, "picture", random.nextInt(hues), 1 + upTo(random.nextInt(4) == 0 ? 8 : 2));
                }
                if (random.nextInt(3) != 0) {
                    line(b, "limit", random.nextInt(3) == 0 ? upTo(99) : upTo(6));
                }
            }
            case 2 -> writeDay(b);
            case 3 -> {
                int told = random.nextInt(10) == 0 ? upTo(13) : upTo(3);
                for (int k = 0; k < told; k++) {
                    int hues = random.nextInt(8) == 0 ? 9 : 3;
                    int a = upTo(hues);
                    int c = upTo(hues);
                    if (a != c || random.nextInt(30) == 0) {
                        line(b, random.nextBoolean() ? "calm" : "sneezed", a, c);
                    }
                }
            }
            default -> writeDinner(b);
        }
        return b.toString();
    }

    private void writeDinner(StringBuilder b) {
        int guests = random.nextInt(12) == 0 ? upTo(9) : upTo(6);
        int hues = random.nextInt(10) == 0 ? 9 : 2 + upTo(3);
        int ways = 1;
        for (int k = 0; k < guests; k++) {
            int mask = 1 + random.nextInt((1 << hues + 1) - 1);
            while (Integer.bitCount(mask) * ways > 3000) {
                mask = 1 << random.nextInt(hues);
                if (ways > 3000) {
                    break;
                }
            }
            ways *= Integer.bitCount(mask);
            b.append("guest");
            int turn = upTo(9);
            for (int j = 0; j < 10; j++) {
                int h = (j + turn) % 10;
                if ((mask >> h & 1) == 1) {
                    b.append(' ').append(h);
                }
            }
            b.append(random.nextInt(60) == 0 ? " " + upTo(10) + ";" : ";");
        }
    }

    private void writePalette(StringBuilder b) {
        int hues = random.nextInt(10) == 0 ? 10 + random.nextInt(2) / 2 : 3 + upTo(5);
        hues = random.nextInt(15) == 0 ? upTo(3) : hues;
        int most = random.nextInt(3) == 0 ? 4 : 9;
        int step = random.nextInt(5) == 0 ? 2 : 1;
        int rules = random.nextInt(30) == 0 ? 7 : random.nextInt(4) == 0 ? upTo(6) : 1 + upTo(2);
        for (int k = 0; k < hues; k++) {
            line(b, "hue", upTo(most) / step * step, upTo(most) / step * step, upTo(most) / step * step);
        }
        for (int k = 0; k < rules; k++) {
            writeRule(b, hues);
        }
        for (int k = upTo(6); k > 0 && hues > 0; k--) {
            line(b, "likes", upTo(1), upTo(random.nextInt(60) == 0 ? 9 : hues - 1), upTo(9));
        }
    }

    private void writeRule(StringBuilder b, int hues) {
        switch (random.nextInt(6)) {
            case 0 -> {
                int low = upTo(30);
                line(b, "sum", low, low + upTo(random.nextInt(4) == 0 ? 20 : 6));
            }
            case 1 -> line(b, "gap", upTo(2), 1 + upTo(8));
            case 2 -> line(b, "like", upTo(2));
            case 3 -> {
                int a = upTo(Math.max(0, hues - 1));
                int c = upTo(Math.max(0, hues - 1));
                line(b, "pair", a, random.nextInt(30) == 0 ? c : (a + 1 + c) % 10 < hues ? (a + 1 + c) % 10 : (a + 1) % 10);
            }
            case 4 -> line(b, "cure", upTo(2), (random.nextBoolean() ? 12 : 4) + upTo(6));
            default -> line(b, "gap", upTo(2), 1 + upTo(3));
        }
    }

    private void writeDay(StringBuilder b) {
        int deeds = random.nextInt(8) == 0 ? upTo(10) : 20 + upTo(35);
        int wild = random.nextInt(4) == 0 ? 1 : 0;
        boolean[] up = new boolean[9];
        boolean[] in = new boolean[6];
        for (int k = 0; k < deeds; k++) {
            int p = upTo(random.nextInt(30) == 0 ? 8 : 3);
            int q = upTo(random.nextInt(4) == 0 ? 5 : 2);
            int room = random.nextInt(4) == 0 ? upTo(3) : 0;
            boolean any = wild == 1 && random.nextInt(12) == 0;
            if (b.length() > 585) {
                return;
            }
            switch (random.nextInt(7)) {
                case 0, 1 -> {
                    if (any || !up[p]) {
                        line(b, "hang", p, room);
                        up[p] = true;
                    } else if (random.nextInt(3) == 0) {
                        line(b, "take", p);
                        up[p] = false;
                    }
                }
                case 2 -> line(b, "wear", q, upTo(random.nextInt(40) == 0 ? 9 : 3));
                case 3, 4 -> {
                    if (any || !in[q]) {
                        line(b, "enter", q, room);
                        in[q] = true;
                    } else if (random.nextInt(3) == 0) {
                        line(b, "leave", q);
                        in[q] = false;
                    }
                }
                default -> line(b, "hour");
            }
        }
    }

    private void line(StringBuilder b, String word, int... numbers) {
        b.append(word);
        for (int n : numbers) {
            b.append(random.nextInt(12) == 0 ? "\n" : " ");
            if (n < 10 && random.nextInt(20) == 0) {
                b.append('0');
            }
            b.append(n);
        }
        b.append(random.nextInt(20) == 0 ? " ; " : ";");
    }

    private int odd() {
        int[] odds = {-1, -2, 2, 3, 4, 5, 6, 9, 10, 11, 99, 100, 1000, Integer.MAX_VALUE, Integer.MIN_VALUE};
        return odds[random.nextInt(odds.length)];
    }

    private int text() {
        return random.nextInt(40) == 0 ? odd() : random.nextInt(2);
    }

    private int below(int n) {
        return random.nextInt(20) == 0 ? odd() : random.nextInt(n);
    }

    private int orNone(int n) {
        return random.nextInt(4) == 0 ? -1 : below(n);
    }

    private int set() {
        int set = random.nextInt(1 << 10) & random.nextInt(1 << 10);
        return random.nextInt(10) == 0 ? random.nextInt() & ~0x300 : set;
    }

    private void ask(int call) {
        if (call < 14) {
            askFirst(call);
        } else {
            askSecond(call);
        }
    }

    private void askFirst(int call) {
        int p = text();
        int g = text();
        int d = text();
        switch (call) {
            case 0 -> {
                int what = random.nextInt(3) == 0 ? random.nextInt(240) - 5 : below(5);
                same("palette " + p + " " + what, mine.palette(p, what), plain.palette(p, what));
            }
            case 1 -> {
                int k = below(6);
                int w = below(3);
                same("rule " + p + " " + k + " " + w, mine.rule(p, k, w), plain.rule(p, k, w));
            }
            case 2 -> {
                int a = below(6);
                int b = below(6);
                same("strength " + p + " " + a + " " + b, mine.strength(p, a, b), plain.strength(p, a, b));
            }
            case 3 -> {
                int h = below(6);
                int a = below(10);
                int b = below(10);
                int c = below(10);
                same("minds " + p + " " + h + " " + a + " " + b + " " + c, mine.minds(p, h, a, b, c),
                    plain.minds(p, h, a, b, c));
            }
            case 4 -> {
                int what = random.nextInt(8) == 0 ? odd() : random.nextInt(32);
                same("gallery " + g + " " + what, mine.gallery(g, what), plain.gallery(g, what));
            }
            case 5 -> {
                int k = orNone(40);
                int w = below(3);
                same("deed " + d + " " + k + " " + w, mine.deed(d, k, w), plain.deed(d, k, w));
            }
            case 6 -> same("stop " + p + " " + g + " " + d, mine.stop(p, g, d), plain.stop(p, g, d));
            case 7, 8, 9 -> {
                int n = random.nextInt(8) == 0 ? odd() : Math.max(0, plain.stop(p, g, d) - upTo(5) + upTo(1));
                int w = random.nextInt(12) == 0 ? odd() : random.nextInt(3) == 0 ? random.nextInt(4) : random.nextInt(66);
                same("state " + p + " " + g + " " + d + " " + n + " " + w, mine.state(p, g, d, n, w),
                    plain.state(p, g, d, n, w));
            }
            case 10 -> {
                int w = below(5);
                same("hung " + p + " " + g + " " + w, mine.hung(p, g, w), plain.hung(p, g, w));
            }
            case 11 -> {
                if (plain.gallery(g, 0) < 8 || random.nextInt(20) == 0) {
                    same("rows " + p + " " + g, mine.rows(p, g), plain.rows(p, g));
                }
            }
            case 12 -> {
                int k = below(9);
                if (plain.gallery(g, 0) < 8 || random.nextInt(20) == 0) {
                    same("row " + p + " " + g + " " + k, mine.row(p, g, k), plain.row(p, g, k));
                }
            }
            default -> {
                int w = random.nextInt(8) == 0 ? odd() : random.nextInt(3) == 0 ? 0 : 9 + random.nextInt(11);
                same("repainted " + p + " " + g + " " + w, mine.repainted(p, g, w), plain.repainted(p, g, w));
            }
        }
    }

    private void askSecond(int call) {
        int p = text();
        int g = text();
        int d = text();
        switch (call) {
            case 14 -> {
                int s = set();
                same("loom " + p + " " + s, mine.loom(p, s), plain.loom(p, s));
            }
            case 15 -> {
                int s = set();
                int k = below(6);
                same("thread " + p + " " + s + " " + k, mine.thread(p, s, k), plain.thread(p, s, k));
            }
            case 16 -> {
                int h = below(6);
                int s = random.nextInt(3) == 0 ? set() : random.nextInt(1 << 10);
                int w = below(3);
                same("mix " + p + " " + h + " " + s + " " + w, mine.mix(p, h, s, w), plain.mix(p, h, s, w));
            }
            case 17 -> {
                int h = orNone(10);
                same("flags " + p + " " + h, mine.flags(p, h), plain.flags(p, h));
            }
            case 18 -> {
                int w = below(2);
                int c = random.nextInt(8) == 0 ? odd() : random.nextInt(6) * 10 + random.nextInt(6);
                same("gain " + p + " " + w + " " + c, mine.gain(p, w, c), plain.gain(p, w, c));
            }
            case 19 -> {
                int k = orNone(8);
                same("rest " + p + " " + k, mine.rest(p, k), plain.rest(p, k));
            }
            case 20 -> {
                int h = below(8);
                boolean r = random.nextBoolean();
                same("spread " + p + " " + h + " " + r, mine.spread(p, h, r), plain.spread(p, h, r));
            }
            case 21 -> {
                int k = orNone(12);
                int w = below(3);
                same("sneeze " + d + " " + k + " " + w, mine.sneeze(d, k, w), plain.sneeze(d, k, w));
            }
            case 22 -> {
                int k = orNone(random.nextInt(3) == 0 ? 1600 : 30);
                int w = below(k == -1 ? 2 : 3);
                same("fits " + p + " " + d + " " + k + " " + w, mine.fits(p, d, k, w), plain.fits(p, d, k, w));
            }
            case 23 -> {
                int k = orNone(8);
                same("guest " + g + " " + k, mine.guest(g, k), plain.guest(g, k));
                same("count " + k, mine.count(k), plain.count(k));
            }
            case 24 -> same("ways " + p + " " + d, mine.ways(p, d), plain.ways(p, d));
            case 25 -> {
                int w = random.nextInt(8) == 0 ? odd() : random.nextBoolean() ? 0 : 9 + random.nextInt(10);
                same("dinner " + p + " " + d + " " + w, mine.dinner(p, d, w), plain.dinner(p, d, w));
            }
            default -> {
                int s = random.nextInt();
                int n = random.nextInt(6) == 0 ? odd() : random.nextInt(42);
                int w = below(2);
                same("drawn " + p + " " + d + " " + s + " " + n + " " + w, mine.drawn(p, d, s, n, w),
                    plain.drawn(p, d, s, n, w));
            }
        }
    }
}
