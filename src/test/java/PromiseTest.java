/** Promises 6, 8, 9, 12 to 24, 26, 28 to 30, with answers worked out by hand from the document. */
public final class PromiseTest {
    private static final int MAX = Integer.MAX_VALUE;
    private static final int MIN = Integer.MIN_VALUE;

    /**
     * Clashes of these hues: 0 and 1 twice (sum, gap), 0 and 2 twice (sum, gap), 0 and 3 once (pair),
     * 1 and 2 once (sum); the cure is there for 1 and 3.
     */
    private static final String COLOURS = "hue 5 0 0;hue 0 5 0;hue 0 0 5;hue 2 2 2;sum 9 10;gap 0 5;like 2;"
        + "pair 0 3;cure 1 7;likes 0 1 6;likes 1 0 4;";

    public static void main(String[] args) {
        strengths();
        singleRules();
        meekFierceDot();
        day();
        dayEdges();
        walls();
        rows();
        repainted();
        loom();
        mix();
        flags();
        neighbours();
        spread();
        sights();
        dinners();
        drawn();
        nothing();
        Probe.finish("PromiseTest");
    }

    private static HueRash with(String colours) {
        HueRash x = new HueRash();
        Probe.told(x, 0, colours, 0);
        return x;
    }

    private static void strengths() {
        HueRash x = with(COLOURS);
        int[][] due = {{0, 2, 2, 1}, {2, 0, 1, 0}, {2, 1, 0, 0}, {1, 0, 0, 0}};
        for (int a = 0; a < 4; a++) {
            for (int b = 0; b < 4; b++) {
                Probe.due("strength " + a + " " + b, x.strength(0, a, b), due[a][b]);
            }
        }
        for (int h : new int[] {-1, 4, 10, MAX, MIN}) {
            Probe.due("strength", x.strength(0, h, 0), -1);
            Probe.due("strength", x.strength(0, 0, h), -1);
            Probe.due("minds", x.minds(0, h, 0, 0, 0), -1);
            Probe.due("strength", x.strength(h == 4 ? 1 : h, 0, 0), -1);
            Probe.due("minds", x.minds(h == 4 ? 1 : h, 0, 0, 0, 0), -1);
        }
        Probe.due("gap alone", x.minds(0, 0, 0, 0, 0), 1);
        Probe.due("sum and gap", x.minds(0, 1, 5, 0, 0), 2);
        Probe.due("no pair", x.minds(0, 0, 2, 2, 2), 0);
        Probe.due("like", x.minds(0, 2, 1, 1, 5), 1);
        Probe.due("like of its own parts, and sum", x.minds(0, 2, 0, 0, 5), 2);
        Probe.due("cured", x.minds(0, 1, 5, 2, 0), 0);
        Probe.due("not cured", x.minds(0, 1, 5, 1, 0), 1);
        for (int p : new int[] {-1, 10, MAX, MIN}) {
            Probe.due("red", x.minds(0, 0, p, 0, 0), -1);
            Probe.due("yellow", x.minds(0, 0, 0, p, 0), -1);
            Probe.due("blue", x.minds(0, 0, 0, 0, p), -1);
        }
        Probe.due("nines", x.minds(0, 0, 9, 9, 9), 0);
    }

    private static void singleRules() {
        HueRash x = with("hue 1 2 3;hue 1 2 3;like 0;like 0;");
        Probe.due("two alike", x.strength(0, 0, 1), 2);
        Probe.due("with itself", x.strength(0, 0, 0), 0);
        x = with("hue 0 2 3;hue 0 4 5;like 0;");
        Probe.due("alike but 0", x.strength(0, 0, 1), 0);
        String[] sums = {"sum 14 14;", "sum 0 13;", "sum 15 54;", "sum 0 14;", "sum 14 54;"};
        int[] due = {1, 0, 0, 1, 1};
        for (int k = 0; k < sums.length; k++) {
            Probe.due(sums[k], with("hue 0 2 3;hue 0 4 5;" + sums[k]).strength(0, 0, 1), due[k]);
        }
        Probe.due("gap 1 2", with("hue 0 2 3;hue 0 4 5;gap 1 2;").strength(0, 1, 0), 1);
        Probe.due("gap 1 3", with("hue 0 2 3;hue 0 4 5;gap 1 3;").strength(0, 0, 1), 0);
        Probe.due("pair turned", with("hue 0 2 3;hue 0 4 5;pair 1 0;").strength(0, 0, 1), 1);
        Probe.due("cure 2 8", with("hue 0 2 3;hue 0 4 5;pair 1 0;cure 2 8;").strength(0, 0, 1), 0);
        Probe.due("cure 2 9", with("hue 0 2 3;hue 0 4 5;pair 1 0;cure 2 9;").strength(0, 0, 1), 1);
        Probe.due("cure alone", with("hue 0 2 3;hue 0 4 5;cure 2 1;").strength(0, 0, 1), 0);
        Probe.due("cure first", with("hue 0 2 3;hue 0 4 5;cure 2 1;pair 0 1;").strength(0, 0, 1), 0);
    }

    private static void meekFierceDot() {
        HueRash x = with(COLOURS);
        Probe.due("meek", x.palette(0, 2), 0);
        Probe.due("fierce", x.palette(0, 3), 0);
        // 000, 001, 010 have a gap to hue 0
        Probe.due("dot", x.palette(0, 4), 100);
        x = with("");
        Probe.due("meek of none", x.palette(0, 2), 0);
        Probe.due("fierce of none", x.palette(0, 3), -1);
        Probe.due("dot of none", x.palette(0, 4), 0);
        x = with("hue 0 0 0;hue 1 0 0;hue 2 0 0;hue 3 0 0;pair 1 2;pair 2 3;pair 3 1;");
        Probe.due("meek", x.palette(0, 2), 1);
        Probe.due("fierce is the least", x.palette(0, 3), 1);
        Probe.due("a dot has no pair", x.palette(0, 4), 0);
        x = with("hue 0 0 0;hue 1 0 0;hue 0 0 0;pair 1 2;");
        Probe.due("meek", x.palette(0, 2), 1);
        x = with("hue 0 0 0;hue 9 0 0;");
        Probe.due("nobody clashes", x.palette(0, 3), 0);
        Probe.due("all are meek", x.palette(0, 2), 3);
        x = with("hue 0 0 0;hue 0 0 0;hue 0 0 0;pair 0 2;pair 0 2;pair 1 2;");
        Probe.due("fierce by hues, not strengths", x.palette(0, 3), 2);
        Probe.due("no dot", with("hue 1 1 1;sum 0 54;").palette(0, 4), -1);
        // less than 2 parts together clash; then 002 before 011, 020, 101
        Probe.due("least number", with("hue 0 0 0;sum 0 1;").palette(0, 4), 2);
        Probe.due("cured dot", with("hue 0 0 0;sum 0 54;cure 0 2;").palette(0, 4), 200);
        Probe.due("like a hue", with("hue 0 0 1;sum 0 0;sum 2 54;").palette(0, 4), 0);
        Probe.due("the greatest", with("hue 0 0 0;sum 0 26;").palette(0, 4), 999);
        Probe.due("cured by 9", with("hue 0 0 0;sum 0 54;cure 0 9;").palette(0, 4), 900);
        Probe.due("cured by yellow", with("hue 0 1 0;sum 0 54;cure 1 10;").palette(0, 4), 90);
        Probe.due("cured by blue", with("hue 0 1 8;sum 0 54;cure 2 17;").palette(0, 4), 9);
        x = with("hue 9 0 0;hue 0 0 0;gap 0 9;sum 0 0;sum 27 27;cure 0 10;");
        Probe.due("dot", x.palette(0, 4), 100);
        Probe.tape(x, "hue 9 9 9;hue 9 9 9;");
        Probe.due("text", x.text(0, 0), 0);
        Probe.due("old rules are gone", x.palette(0, 4), 0);
        Probe.tape(x, "hue 9 0 0;hue 0 0 0;pair 0 1;");
        Probe.due("text", x.text(0, 0), 0);
        Probe.due("old rules are gone", x.palette(0, 4), 0);
        Probe.tape(x, "hue 9 0 0;hue 0 0 0;sum 27 27;");
        Probe.due("text", x.text(0, 0), 0);
        Probe.tape(x, "hue 0 0 0;hue 0 0 0;hue 9 9 9;pair 1 2;");
        Probe.due("text", x.text(0, 0), 0);
        mix(x, 2, 2, 1, 0, 999);
        // 003 comes before 100 by its number, but has more parts
        Probe.due("fewer parts", with("hue 5 0 0;gap 0 5;cure 2 3;").palette(0, 4), 100);
    }

    private static void day() {
        HueRash x = with(COLOURS);
        Probe.told(x, 1, "picture 0 2;picture 1 3;picture 2 1;picture 3 1;limit 4;", 0);
        Probe.told(x, 2, "hang 0 0;hang 1 0;wear 0 3;enter 0 0;enter 1 0;hour;wear 1 2;hour;leave 0;take 0;"
            + "hang 2 3;hour;take 0;hour;", 0);
        Probe.due("stop", x.stop(0, 0, 0), 12);
        state(x, 0, "hours 0 rash 0 forbidden -1 -1 hang -1 -1 -1 -1 area 2 3 1 1 in -1 -1 on -1 -1 sneezed 0 0 now 0 0 0 0");
        state(x, 5, "hours 0 rash 0 forbidden -1 -1 hang 0 0 -1 -1 area 2 3 1 1 in 0 0 on 3 -1 sneezed 0 0 now 3 0 0 0");
        state(x, 6, "hours 1 rash 3 forbidden -1 -1 hang 0 0 -1 -1 area 1 2 1 1 in 0 0 on 3 -1 sneezed 3 3 now 3 0 0 0");
        state(x, 7, "hours 1 rash 3 forbidden -1 -1 hang 0 0 -1 -1 area 1 2 1 1 in 0 0 on 3 2 sneezed 3 3 now 6 0 0 0");
        state(x, 8, "hours 2 rash 9 forbidden 1 0 hang 0 0 -1 -1 area 0 1 1 1 in 0 0 on 3 2 sneezed 9 9 now 1 0 0 0");
        state(x, 12, "hours 3 rash 10 forbidden 1 0 hang -1 0 3 -1 area 0 0 1 1 in -1 0 on 3 2 sneezed 9 10 now 0 0 0 0");
        for (int n : new int[] {-1, 13, 14, 15, MAX, MIN}) {
            Probe.due("state " + n, x.state(0, 0, 0, n, 0), -2);
        }
        for (int what : new int[] {-1, 4, 9, 14, 18, 19, 24, 28, 36, 39, 46, 56, 59, 64, 70, MAX, MIN}) {
            Probe.due("state what " + what, x.state(0, 0, 0, 3, what), -2);
        }
        for (int other : new int[] {-1, 1, 2, MAX}) {
            Probe.due("stop", x.stop(other, 0, 0), -1);
            Probe.due("stop", x.stop(0, other, 0), -1);
            Probe.due("stop", x.stop(0, 0, other), -1);
            Probe.due("state", x.state(other, 0, 0, 0, 0), -2);
            Probe.due("state", x.state(0, other, 0, 0, 0), -2);
            Probe.due("state", x.state(0, 0, other, 0, 0), -2);
        }
        Probe.told(x, 0, "hue 0 0 0;hue 0 0 0;hue 0 0 0;", 1);
        Probe.due("does not fit", x.stop(1, 0, 0), -1);
        Probe.due("does not fit", x.state(1, 0, 0, 0, 0), -2);
    }

    /** Numbers in the order: hours, rash, forbidden's two, four pictures' places and areas, two people, rooms. */
    private static void state(HueRash x, int n, String due) {
        int[] whats = {0, 1, 2, 3, 10, 11, 12, 13, 20, 21, 22, 23, 30, 31, 40, 41, 50, 51, 60, 61, 62, 63};
        int k = 0;
        for (String word : due.split(" ")) {
            if (word.matches("-?[0-9]+")) {
                Probe.due("state " + n + " " + whats[k], x.state(0, 0, 0, n, whats[k]), Integer.parseInt(word));
                k++;
            }
        }
        Probe.due("all are told", k, whats.length);
    }

    private static int stopOf(String day) {
        HueRash x = with(COLOURS);
        Probe.told(x, 1, "picture 0 2;picture 1 3;", 0);
        Probe.told(x, 2, day, 0);
        return x.stop(0, 0, 0);
    }

    private static void dayEdges() {
        Probe.due("empty", stopOf(""), 0);
        Probe.due("no picture 2", stopOf("hour;hang 2 0;"), 1);
        Probe.due("take no picture 2", stopOf("take 2;"), 0);
        Probe.due("hangs already", stopOf("hang 1 0;hang 1 3;"), 1);
        Probe.due("hangs nowhere", stopOf("hang 0 0;take 1;"), 1);
        Probe.due("taken and hung", stopOf("hang 1 0;take 1;hang 1 2;take 1;take 1;"), 4);
        Probe.due("no hue 4", stopOf("wear 0 3;wear 0 3;wear 5 4;"), 2);
        Probe.due("in already", stopOf("enter 0 0;enter 1 0;enter 0 1;"), 2);
        Probe.due("out", stopOf("leave 0;"), 0);
        Probe.due("in and out", stopOf("enter 5 3;leave 5;enter 5 0;leave 5;leave 5;"), 4);
        HueRash x = with(COLOURS);
        // a limit of 0; rooms 3 and 1 are both above it in the same hour; the usual limit is not reached
        Probe.told(x, 1, "picture 0 1;picture 1 1;picture 1 1;limit 0;", 0);
        Probe.told(x, 1, "picture 0 1;picture 1 1;picture 1 1;", 1);
        Probe.told(x, 2, "hour;hang 0 3;hang 1 3;enter 0 1;wear 0 0;enter 1 1;wear 1 3;hour;hour;", 0);
        Probe.due("hour", x.state(0, 0, 0, 9, 2), 1);
        Probe.due("room", x.state(0, 0, 0, 9, 3), 1);
        Probe.due("hour", x.state(0, 1, 0, 9, 2), -1);
        Probe.due("room", x.state(0, 1, 0, 9, 3), -1);
        Probe.due("rash", x.state(0, 0, 0, 9, 1), 4);
        Probe.due("sneezed", x.state(0, 0, 0, 9, 50), 2);
        Probe.due("faded", x.state(0, 0, 0, 9, 20), 0);
        Probe.due("not hung", x.state(0, 0, 0, 9, 22), 1);
        Probe.due("still hangs", x.state(0, 0, 0, 9, 10), 3);
        // rash of exactly the limit is allowed: 2 and 2, then 2 and 3
        Probe.told(x, 2, "hang 0 0;hang 1 0;hour;", 1);
        Probe.tape(x, "picture 0 9;picture 1 9;limit 2;");
        Probe.due("text", x.text(1, 1), 1);
        Probe.due("at the limit", x.state(0, 1, 1, 3, 2), -1);
        Probe.tape(x, "picture 0 9;picture 1 9;limit 1;");
        Probe.due("text", x.text(1, 1), 1);
        Probe.due("above the limit", x.state(0, 1, 1, 3, 2), 0);
        Probe.due("fades once", x.state(0, 1, 1, 3, 20), 8);
    }

    private static void walls() {
        HueRash x = with(COLOURS);
        Probe.told(x, 1, "picture 0 2;picture 1 3;picture 2 1;picture 3 1;", 0);
        int[] due = {3, 7, 3, 0, 6};
        for (int what = 0; what < 5; what++) {
            Probe.due("hung " + what, x.hung(0, 0, what), due[what]);
        }
        for (int what : new int[] {-1, 5, MAX, MIN}) {
            Probe.due("hung " + what, x.hung(0, 0, what), -2);
        }
        Probe.told(x, 1, "", 1);
        int[] none = {0, 0, 0, -1, 0};
        for (int what = 0; what < 5; what++) {
            Probe.due("hung nothing " + what, x.hung(0, 1, what), none[what]);
        }
        // 3 twice, 1, 2: 1 and 2 clash alone
        Probe.tape(x, "picture 3 1;picture 3 1;picture 1 1;picture 2 1;");
        Probe.due("text", x.text(1, 1), 1);
        int[] other = {2, 12, 4, 2, 1};
        for (int what = 0; what < 5; what++) {
            Probe.due("hung other " + what, x.hung(0, 1, what), other[what]);
        }
        // the same hue twice never clashes
        Probe.tape(x, "picture 0 1;picture 0 1;");
        Probe.due("text", x.text(1, 1), 1);
        int[] same = {1, 1, 0, 0, 0};
        for (int what = 0; what < 5; what++) {
            Probe.due("hung same " + what, x.hung(0, 1, what), same[what]);
        }
        Probe.due("no palette", x.hung(1, 0, 0), -2);
        Probe.due("no gallery", x.hung(0, 2, 0), -2);
        Probe.due("no gallery", x.hung(0, -1, 0), -2);
        Probe.tape(x, "picture 4 1;");
        Probe.due("text", x.text(1, 1), 1);
        for (int what = 0; what < 5; what++) {
            Probe.due("does not fit", x.hung(0, 1, what), -2);
        }
        nineOfAKind();
    }

    private static void nineOfAKind() {
        HueRash x = with("hue 0 0 1;hue 0 0 2;hue 0 0 3;hue 0 0 4;hue 0 0 5;hue 0 0 6;hue 0 0 7;hue 0 0 8;"
            + "hue 0 0 9;sum 0 54;");
        Probe.told(x, 1, "picture 0 1;picture 1 1;picture 2 1;picture 3 1;picture 4 1;picture 5 1;picture 6 1;"
            + "picture 7 1;picture 8 1;", 0);
        int[] due = {9, 511, 255, 0, 36};
        for (int what = 0; what < 5; what++) {
            Probe.due("nine " + what, x.hung(0, 0, what), due[what]);
        }
        Probe.due("no row", x.rows(0, 0), 0);
        // five in the odd places would be needed
        Probe.tape(x, "hue 0 0 1;hue 0 0 2;hue 0 0 3;hue 0 0 4;hue 0 0 5;hue 0 0 6;hue 0 0 7;hue 0 0 8;hue 0 0 9;");
        Probe.due("text", x.text(0, 0), 0);
        Probe.due("all rows", x.rows(0, 0), 362880);
        for (int k = 0; k < 9; k++) {
            Probe.due("row " + k, x.row(0, 0, k), k);
        }
    }

    private static void rows() {
        HueRash x = with(COLOURS);
        Probe.told(x, 1, "picture 0 2;picture 1 3;picture 2 1;picture 3 1;", 0);
        Probe.due("rows", x.rows(0, 0), 0);
        Probe.due("no row", x.row(0, 0, 0), -1);
        Probe.told(x, 1, "picture 1 1;picture 2 9;picture 3 2;", 1);
        Probe.due("rows", x.rows(0, 1), 2);
        int[] due = {0, 2, 1};
        for (int k = 0; k < 3; k++) {
            Probe.due("row " + k, x.row(0, 1, k), due[k]);
        }
        for (int k : new int[] {-1, 3, MAX, MIN}) {
            Probe.due("row " + k, x.row(0, 1, k), -1);
        }
        Probe.due("rows", x.rows(1, 0), -1);
        Probe.due("rows", x.rows(0, 2), -1);
        Probe.due("row", x.row(-1, 0, 0), -1);
        Probe.due("row", x.row(0, -1, 0), -1);
        Probe.tape(x, "");
        Probe.due("text", x.text(1, 1), 1);
        Probe.due("rows of nothing", x.rows(0, 1), 1);
        Probe.due("row of nothing", x.row(0, 1, 0), -1);
        Probe.tape(x, "picture 0 1;picture 4 1;");
        Probe.due("text", x.text(1, 1), 1);
        Probe.due("does not fit", x.rows(0, 1), -1);
        Probe.due("does not fit", x.row(0, 1, 0), -1);
    }

    private static void repainted() {
        HueRash x = with(COLOURS);
        Probe.told(x, 1, "picture 0 2;picture 1 3;picture 2 1;picture 3 1;", 0);
        Probe.due("cost", x.repainted(0, 0, 0), 21);
        int[] due = {3, 1, 3, 3};
        for (int k = 0; k < 4; k++) {
            Probe.due("painted " + k, x.repainted(0, 0, 10 + k), due[k]);
        }
        for (int what : new int[] {-1, 1, 9, 14, 20, MAX, MIN}) {
            Probe.due("painted " + what, x.repainted(0, 0, what), -1);
        }
        Probe.told(x, 1, "", 1);
        Probe.due("nothing", x.repainted(0, 1, 0), 0);
        Probe.due("nothing", x.repainted(0, 1, 10), -1);
        // a hue of the same parts costs nothing; 2 0, 2 1, 2 2 and 3 3 cost 1 behind it
        HueRash y = with("hue 1 0 0;hue 1 0 0;hue 3 0 0;hue 2 0 0;pair 2 3;");
        Probe.told(y, 1, "picture 1 5;picture 2 1;picture 3 1;", 0);
        Probe.due("cost", y.repainted(0, 0, 0), 1);
        int[] least = {0, 2, 0};
        for (int k = 0; k < 3; k++) {
            Probe.due("painted " + k, y.repainted(0, 0, 10 + k), least[k]);
        }
        Probe.due("no palette", y.repainted(1, 0, 0), -1);
        Probe.due("no gallery", y.repainted(0, 1, 0), -1);
        Probe.told(y, 1, "picture 4 1;", 1);
        Probe.due("does not fit", y.repainted(0, 1, 0), -1);
        Probe.due("does not fit", y.repainted(0, 1, 10), -1);
    }

    private static void loom() {
        HueRash x = with(COLOURS);
        Probe.due("all", x.loom(0, 15), 0);
        Probe.due("no order", x.thread(0, 15, 0), -1);
        Probe.due("1 2 3", x.loom(0, 14), 2);
        int[] due = {1, 3, 2};
        for (int k = 0; k < 3; k++) {
            Probe.due("thread " + k, x.thread(0, 14, k), due[k]);
            Probe.due("others do not count", x.thread(0, 14 | 16 | 1 << 20, k), due[k]);
        }
        Probe.due("others do not count", x.loom(0, 14 | 16 | 1 << 20), 2);
        Probe.due("bits below 0", x.loom(0, MIN | 10), 2);
        Probe.due("all bits", x.loom(0, -1), 0);
        Probe.due("empty", x.loom(0, 0), 1);
        Probe.due("empty", x.loom(0, 16), 1);
        Probe.due("empty", x.thread(0, 0, 0), -1);
        Probe.due("one", x.loom(0, 8), 1);
        Probe.due("one", x.thread(0, 8, 0), 3);
        for (int k : new int[] {-1, 1, MAX, MIN}) {
            Probe.due("thread " + k, x.thread(0, 8, k), -1);
        }
        for (int p : new int[] {-1, 1, 2, MAX, MIN}) {
            Probe.due("no palette", x.loom(p, 1), -1);
            Probe.due("no palette", x.thread(p, 1, 0), -1);
        }
        HueRash y = with("hue 0 0 0;".repeat(10));
        Probe.due("ten", y.loom(0, 1023), 3628800);
        for (int k = 0; k < 10; k++) {
            Probe.due("thread " + k, y.thread(0, 1023, k), k);
        }
        Probe.told(y, 0, "hue 0 0 0;hue 0 0 0;hue 0 0 0;pair 0 1;pair 0 2;pair 1 2;", 1);
        Probe.due("other palette", y.loom(1, 7), 0);
        Probe.due("other set", y.loom(1, 3), 0);
        Probe.due("first palette", y.loom(0, 7), 6);
    }

    private static void mix(HueRash x, int hue, int set, int units, int first, int colour) {
        Probe.due("mix " + hue + " " + set + " 0", x.mix(0, hue, set, 0), units);
        Probe.due("mix " + hue + " " + set + " 1", x.mix(0, hue, set, 1), first);
        Probe.due("mix " + hue + " " + set + " 2", x.mix(0, hue, set, 2), colour);
    }

    private static void mix() {
        HueRash x = with(COLOURS);
        mix(x, 0, 0, 0, -1, 500);
        mix(x, 0, 1, 0, -1, 500);
        mix(x, 1, 8 | 1 << 30, 0, -1, 50);
        mix(x, 0, 2, 1, 0, 0);
        mix(x, 3, 1, 1, 0, 722);
        mix(x, 2, 3, 1, 3, 227);
        for (int what : new int[] {-1, 3, MAX, MIN}) {
            Probe.due("mix what", x.mix(0, 0, 0, what), -2);
        }
        for (int hue : new int[] {-1, 4, MAX, MIN}) {
            Probe.due("mix hue", x.mix(0, hue, 0, 0), -2);
            Probe.due("mix palette", x.mix(hue == 4 ? 1 : hue, 0, 0, 0), -2);
        }
        HueRash never = with("hue 0 0 0;hue 1 1 1;sum 0 54;");
        mix(never, 0, 2, -2, -2, -2);
        mix(never, 0, 1, 0, -1, 0);
        // paint without parts: the colour is no hue any more, and the pair is gone
        mix(with("hue 3 4 5;hue 0 0 0;pair 0 1;"), 0, 2, 1, 0, 680);
        mix(with("hue 0 0 0;hue 3 4 5;pair 0 1;"), 0, 2, 1, 0, 0);
        // the hue alone is borne by itself; mixed it is not
        mix(with("hue 0 0 1;hue 0 0 0;pair 0 1;like 2;"), 0, 3, 1, 0, 2);
        // red goes by 4 from 0, by 10: 4, 8, 2, 6; 6 is the first one that is borne
        mix(with("hue 4 0 0;hue 0 0 0;sum 0 5;sum 7 54;"), 0, 2, 3, 0, 600);
        // in two units: 0 and 1, in that order, as 0 1 is before 1 0; 0 0 makes 8, 1 1 makes 2
        HueRash two = with("hue 0 4 0;hue 0 1 0;hue 0 0 0;sum 0 8;sum 10 54;");
        mix(two, 0, 4, 2, 0, 90);
        mix(two, 1, 4, 2, 0, 90);
        // the last one of all colours, by 9 reds, 9 yellows, 9 blues, less the red that it has
        mix(with("hue 1 0 0;hue 0 1 0;hue 0 0 1;hue 0 0 0;sum 0 26;"), 0, 8, 26, 0, 999);
        mix(with("hue 1 0 0;hue 0 1 0;hue 0 0 1;hue 0 0 0;sum 0 27;"), 0, 8, -2, -2, -2);
    }

    private static void flags() {
        HueRash x = with(COLOURS);
        Probe.due("flags", x.flags(0, -1), 1);
        int[] due = {-1, 3, -1, 1};
        for (int h = 0; h < 4; h++) {
            Probe.due("ally " + h, x.flags(0, h), due[h]);
        }
        for (int h : new int[] {-2, 4, 10, MAX, MIN}) {
            Probe.due("ally " + h, x.flags(0, h), -2);
        }
        Probe.due("no palette", x.flags(1, -1), -2);
        Probe.due("no palette", x.flags(-1, 0), -2);
        // 0 bears 1 and 2, 3 bears 1 alone: 0 must go with 2
        HueRash y = with("hue 0 0 0;hue 0 0 0;hue 0 0 0;hue 0 0 0;pair 0 3;pair 1 2;pair 2 3;");
        Probe.due("flags", y.flags(0, -1), 2);
        int[] crossed = {2, 3, 0, 1};
        for (int h = 0; h < 4; h++) {
            Probe.due("ally " + h, y.flags(0, h), crossed[h]);
        }
        Probe.told(y, 0, "hue 0 0 0;hue 0 0 0;hue 0 0 0;", 1);
        Probe.due("three", y.flags(1, -1), 1);
        Probe.due("ally 0", y.flags(1, 0), 1);
        Probe.due("ally 1", y.flags(1, 1), 0);
        Probe.due("ally 2", y.flags(1, 2), -1);
        Probe.due("first palette", y.flags(0, -1), 2);
        Probe.due("no hues", with("").flags(0, -1), 0);
        Probe.due("no hues", with("").flags(0, 0), -2);
        Probe.due("ten", with("hue 0 0 0;".repeat(10)).flags(0, -1), 5);
    }

    private static void neighbours() {
        HueRash x = with(COLOURS);
        int[][] due = {{0, 10, 0}, {1, 10, -2}, {0, 13, 6}, {1, 13, 0}, {0, 0, 0}, {1, 0, 4}, {0, 1, -6}, {1, 1, -6},
            {0, 30, -3}, {1, 30, 1}, {0, 33, 0}};
        for (int[] d : due) {
            Probe.due("gain " + d[0] + " " + d[1], x.gain(0, d[0], d[1]), d[2]);
        }
        for (int couple : new int[] {-1, 4, 14, 40, 43, 44, 99, 100, MAX, MIN}) {
            Probe.due("gain " + couple, x.gain(0, 0, couple), -1000);
        }
        for (int k : new int[] {-1, 2, MAX, MIN}) {
            Probe.due("who " + k, x.gain(0, k, 0), -1000);
            Probe.due("palette " + k, x.gain(k, 0, 0), -1000);
            Probe.due("palette " + k, x.rest(k, -1), -1);
        }
        Probe.due("rests", x.rest(0, -1), 3);
        int[] rests = {0, 11, 13};
        for (int k = 0; k < 3; k++) {
            Probe.due("rest " + k, x.rest(0, k), rests[k]);
        }
        for (int k : new int[] {-2, 3, MAX, MIN}) {
            Probe.due("rest " + k, x.rest(0, k), -1);
        }
        HueRash all = with("hue 0 0 0;hue 0 0 0;");
        Probe.due("rests", all.rest(0, -1), 4);
        Probe.due("last rest", all.rest(0, 3), 11);
        Probe.due("no hues", with("").rest(0, -1), 0);
        Probe.due("no hues", with("").rest(0, 0), -1);
    }

    private static void spread() {
        HueRash x = with(COLOURS);
        int[] rounds = {1, 2, 2, 2};
        for (int h = 0; h < 4; h++) {
            Probe.due("spread " + h, x.spread(0, h, false), 4);
            Probe.due("rounds " + h, x.spread(0, h, true), rounds[h]);
        }
        for (int h : new int[] {-1, 4, MAX, MIN}) {
            Probe.due("spread " + h, x.spread(0, h, false), -1);
            Probe.due("spread " + h, x.spread(0, h, true), -1);
            Probe.due("spread " + h, x.spread(h == 4 ? 1 : h, 0, true), -1);
        }
        // a chain: hues 3 apart clash
        HueRash y = with("hue 0 0 0;hue 3 0 0;hue 6 0 0;hue 9 0 0;hue 0 0 0;pair 0 1;pair 1 2;pair 2 3;");
        Probe.due("chain", y.spread(0, 0, false), 4);
        Probe.due("chain", y.spread(0, 0, true), 3);
        Probe.due("chain", y.spread(0, 2, true), 2);
        Probe.due("alone", y.spread(0, 4, false), 1);
        Probe.due("alone", y.spread(0, 4, true), 0);
    }

    private static void sights() {
        HueRash x = with(COLOURS);
        Probe.told(x, 3, "sneezed 0 1;calm 1 2;calm 3 2;", 0);
        Probe.due("fit", x.fits(0, 0, -1, 0), 3);
        for (int k = 0; k < 3; k++) {
            Probe.due("sort", x.fits(0, 0, k, 0), 1);
            Probe.due("part", x.fits(0, 0, k, 1), 0);
            Probe.due("n", x.fits(0, 0, k, 2), 3 + k);
        }
        Probe.due("tells", x.fits(0, 0, -1, 1), 3);
        for (int what : new int[] {-1, 3, MAX, MIN}) {
            Probe.due("what " + what, x.fits(0, 0, 0, what), -2);
            Probe.due("what " + what, x.fits(0, 0, -1, what == 3 ? 2 : what), -2);
        }
        for (int k : new int[] {-2, 3, MAX, MIN}) {
            Probe.due("fits " + k, x.fits(0, 0, k, 0), -2);
        }
        Probe.due("no palette", x.fits(1, 0, -1, 0), -2);
        Probe.due("no sight", x.fits(0, 1, -1, 0), -2);
        Probe.due("no palette", x.fits(-1, 0, -1, 0), -2);
        Probe.due("no sight", x.fits(0, -1, -1, 0), -2);
        Probe.told(x, 3, "", 1);
        Probe.due("all", x.fits(0, 1, -1, 0), 1570);
        int[][] due = {{0, 0, 0, 0}, {1, 0, 0, 1}, {54, 0, 0, 54}, {55, 0, 1, 1}, {1539, 0, 54, 54}, {1540, 1, 0, 1},
            {1548, 1, 0, 9}, {1549, 1, 1, 1}, {1566, 1, 2, 9}, {1567, 2, 0, -1}, {1569, 2, 2, -1}, {1570, -2, -2, -2}};
        for (int[] d : due) {
            for (int what = 0; what < 3; what++) {
                Probe.due("fits " + d[0] + " " + what, x.fits(0, 1, d[0], what), d[1 + what]);
            }
        }
        // 0 1, 0 2, 1 2: 11 * 45 sums of 10 and 10 gaps hold; 0 3, 1 3, 2 3: 12 * 44 of 11 and 7
        Probe.due("tells", x.fits(0, 1, -1, 1), 3);
        Probe.tape(x, "sneezed 0 1;calm 1 0;");
        Probe.due("text", x.text(3, 1), 1);
        Probe.due("none", x.fits(0, 1, -1, 0), 0);
        Probe.due("none", x.fits(0, 1, 0, 0), -2);
        Probe.due("none tells", x.fits(0, 1, -1, 1), 1);
        Probe.tape(x, "calm 0 4;");
        Probe.due("text", x.text(3, 1), 1);
        Probe.due("hue 4 is not there", x.fits(0, 1, -1, 0), -2);
        Probe.due("hue 4 is not there", x.fits(0, 1, 0, 0), -2);
        HueRash one = with("hue 1 1 1;");
        Probe.told(one, 3, "", 0);
        Probe.due("one hue", one.fits(0, 0, -1, 1), -1);
        Probe.due("one hue", one.fits(0, 0, -1, 0), 1570);
        sneezedSums();
    }

    private static void sneezedSums() {
        // 0 and 1 together 6, 0 and 2 together 9, 1 and 2 together 11; reds 1 4 4, the others far apart
        HueRash x = with("hue 1 1 0;hue 4 0 0;hue 4 2 1;cure 0 1;");
        Probe.told(x, 3, "sneezed 0 1;sneezed 0 2;calm 1 2;", 0);
        // sums with lo to 6, hi 9 or 10: 7 * 2; gaps of red 1 to 3, gap of yellow 1; no like
        Probe.due("fit", x.fits(0, 0, -1, 0), 14 + 3);
        Probe.due("first", x.fits(0, 0, 0, 1), 0);
        Probe.due("first", x.fits(0, 0, 0, 2), 9);
        Probe.due("second", x.fits(0, 0, 1, 2), 10);
        Probe.due("last sum", x.fits(0, 0, 13, 1), 6);
        Probe.due("first gap", x.fits(0, 0, 14, 0), 1);
        Probe.told(x, 3, "sneezed 1 2;calm 0 1;", 1);
        // sums: lo 7 to 11, hi from 11: 5 * 44; gaps: yellow 2, blue 1; like: red
        Probe.due("fit", x.fits(0, 1, -1, 0), 220 + 2 + 1);
        Probe.due("like", x.fits(0, 1, 222, 0), 2);
        Probe.due("like", x.fits(0, 1, 222, 1), 0);
        Probe.due("like", x.fits(0, 1, 222, 2), -1);
    }

    private static void dinners() {
        HueRash x = with(COLOURS);
        Probe.told(x, 4, "guest 0 1;guest 3 2;guest 1 3;", 0);
        Probe.due("ways", x.ways(0, 0), 2);
        int[] due = {1, 3, 1};
        for (int k = 0; k < 3; k++) {
            Probe.due("wears " + k, x.dinner(0, 0, 10 + k), due[k]);
        }
        Probe.due("few", x.dinner(0, 0, 0), 2);
        for (int what : new int[] {-1, 1, 9, 13, MAX, MIN}) {
            Probe.due("dinner " + what, x.dinner(0, 0, what), -1);
        }
        for (int k : new int[] {-1, 1, MAX, MIN}) {
            Probe.due("no palette", x.ways(k, 0), -1);
            Probe.due("no palette", x.dinner(k, 0, 0), -1);
            Probe.due("no dinner", x.ways(0, k), -1);
            Probe.due("no dinner", x.dinner(0, k, 0), -1);
        }
        Object[][] others = {{"guest 0;", 1, 1}, {"guest 0;guest 0;", 1, 1}, {"guest 0;guest 1;", 0, -1},
            {"", 1, 0}, {"guest 0 1 2 3;", 4, 1}, {"guest 1;guest 3;guest 2;", 0, -1},
            {"guest 1;guest 3;guest 2;guest 3;", 1, 3}, {"guest 0 1 2 3;guest 0 1 2 3;", 8, 1},
            {"guest 1 2;guest 3 1;guest 3;guest 2 1;", 3, 2}, {"guest 1;guest 0 3;guest 0 2;guest 0 3;", 1, 3}};
        Probe.told(x, 4, "", 1);
        for (Object[] o : others) {
            Probe.tape(x, (String) o[0]);
            Probe.due("text", x.text(4, 1), 1);
            Probe.due("ways of " + o[0], x.ways(0, 1), (int) o[1]);
            Probe.due("few of " + o[0], x.dinner(0, 1, 0), (int) o[2]);
        }
        Probe.tape(x, "guest 0;guest 4;");
        Probe.due("text", x.text(4, 1), 1);
        Probe.due("no hue 4", x.ways(0, 1), -1);
        Probe.due("no hue 4", x.dinner(0, 1, 0), -1);
        // the last and the first are neighbours: 0 5 3 5 3 is no way, 0 5 3 5 4 is
        HueRash round = with("hue 0 0 0;".repeat(6) + "pair 0 3;");
        Probe.told(round, 4, "guest 0;guest 5;guest 3;guest 5;guest 3 4;", 0);
        Probe.due("round", round.ways(0, 0), 1);
        Probe.due("round few", round.dinner(0, 0, 0), 4);
        Probe.due("round last", round.dinner(0, 0, 14), 4);
        HueRash free = with("hue 0 0 0;".repeat(10));
        Probe.told(free, 4, "guest 0 1 2 3 4 5 6 7 8 9;".repeat(8), 0);
        Probe.due("free ways", free.ways(0, 0), 100000000);
        Probe.due("free few", free.dinner(0, 0, 0), 1);
        Probe.due("free wears", free.dinner(0, 0, 17), 0);
        Probe.told(free, 4, "guest 9;guest 8;guest 7;guest 6;guest 5;guest 4;guest 3;guest 2;", 1);
        Probe.due("own hues", free.ways(0, 1), 1);
        Probe.due("own hues", free.dinner(0, 1, 0), 8);
        Probe.due("own hues", free.dinner(0, 1, 13), 6);
    }

    /** A palette without hues, and with it empty texts. */
    private static void nothing() {
        HueRash x = with("");
        Probe.told(x, 1, "", 0);
        Probe.told(x, 2, "hour;enter 1 2;hour;wear 1 0;", 0);
        Probe.told(x, 3, "", 0);
        Probe.told(x, 4, "", 0);
        Probe.due("stop", x.stop(0, 0, 0), 3);
        Probe.due("state", x.state(0, 0, 0, 3, 31), 2);
        Probe.due("rooms", x.hung(0, 0, 0), 0);
        Probe.due("rows", x.rows(0, 0), 1);
        Probe.due("repainted", x.repainted(0, 0, 0), 0);
        Probe.due("loom", x.loom(0, -1), 1);
        Probe.due("fits", x.fits(0, 0, -1, 0), 1570);
        Probe.due("tells", x.fits(0, 0, -1, 1), -1);
        Probe.due("ways", x.ways(0, 0), 1);
        Probe.due("few", x.dinner(0, 0, 0), 0);
        Probe.due("drawn", x.drawn(0, 0, 0, 3, 0), 3);
        Probe.due("flags", x.flags(0, -1), 0);
        Probe.due("mix", x.mix(0, 0, 0, 0), -2);
        Probe.due("spread", x.spread(0, 0, false), -1);
        Probe.told(x, 1, "picture 0 1;", 1);
        Probe.due("does not fit", x.rows(0, 1), -1);
        Probe.told(x, 4, "guest 0;", 1);
        Probe.due("does not fit", x.ways(0, 1), -1);
    }

    private static void drawn() {
        HueRash x = with(COLOURS);
        Probe.told(x, 4, "guest 1 0;guest 3 2;guest 3 1;", 0);
        int[][] due = {{1, 4, 1, 8}, {-5, 4, 0, 13}, {0, 4, 1, 9}, {7, 40, 7, 93}, {7, 0, 0, 0}, {1, 1, 0, 3}};
        for (int[] d : due) {
            Probe.due("calm of seed " + d[0], x.drawn(0, 0, d[0], d[1], 0), d[2]);
            Probe.due("strengths of seed " + d[0], x.drawn(0, 0, d[0], d[1], 1), d[3]);
        }
        for (int n : new int[] {-1, 41, MAX, MIN}) {
            Probe.due("evenings " + n, x.drawn(0, 0, 1, n, 0), -1);
        }
        for (int what : new int[] {-1, 2, MAX, MIN}) {
            Probe.due("what " + what, x.drawn(0, 0, 1, 1, what), -1);
            Probe.due("no palette", x.drawn(what == 2 ? 1 : what, 0, 1, 1, 0), -1);
            Probe.due("no dinner", x.drawn(0, what == 2 ? 1 : what, 1, 1, 0), -1);
        }
        // two guests are neighbours once
        Probe.told(x, 4, "guest 0 1;guest 1 2;", 1);
        Probe.due("two", x.drawn(0, 1, 3, 5, 0), 1);
        Probe.due("two", x.drawn(0, 1, 3, 5, 1), 6);
        Probe.tape(x, "guest 0 1 2;");
        Probe.due("text", x.text(4, 1), 1);
        Probe.due("one", x.drawn(0, 1, 3, 40, 0), 40);
        Probe.due("one", x.drawn(0, 1, 3, 40, 1), 0);
        Probe.tape(x, "");
        Probe.due("text", x.text(4, 1), 1);
        Probe.due("nobody", x.drawn(0, 1, 3, 9, 0), 9);
        Probe.tape(x, "guest 7;");
        Probe.due("text", x.text(4, 1), 1);
        Probe.due("no hue 7", x.drawn(0, 1, 3, 9, 0), -1);
    }
}
