/**
 * Promises 6 to 30: for each sentence of the document that names a boundary case a test of its own.
 * The test's name begins with the promise's number; what the terms say is seen by the promise that answers it.
 */
public final class CallEdgeTest {
    private static final int MAX = Integer.MAX_VALUE;
    private static final int MIN = Integer.MIN_VALUE;
    private static final String BLACK = "hue 0 0 0;";
    private static final String TEN_HUES = BLACK.repeat(10);
    /** Of three hues 0 and 1 clash once, 1 and 2 twice. */
    private static final String THREE = BLACK.repeat(3) + "pair 0 1;pair 1 2;pair 2 1;";
    /** Of three hues each two clash. */
    private static final String ALL_CLASH = BLACK.repeat(3) + "sum 0 0;";

    public static void main(String[] args) throws ReflectiveOperationException {
        java.util.TreeSet<Integer> promises = Probe.runNamed(CallEdgeTest.class);
        for (int promise = 6; promise <= 30; promise++) {
            Probe.due("a test of promise " + promise, promises.contains(promise), true);
        }
        Probe.finish("CallEdgeTest");
    }

    private static int[] outside(int... those) {
        int[] all = java.util.Arrays.copyOf(those, those.length + 2);
        all[those.length] = MIN;
        all[those.length + 1] = MAX;
        return all;
    }

    // ---- palette ----

    static void p06_noneSuch() {
        HueRash x = new HueRash();
        for (int p : outside(-1, 0, 1, 2)) {
            Probe.due("without palettes " + p, x.palette(p, 0), -1);
        }
        Probe.told(x, 0, "hue 1 1 1;", 0);
        for (int p : outside(-1, 1, 2)) {
            Probe.due("with one " + p, x.palette(p, 0), -1);
        }
        Probe.told(x, 0, "", 1);
        for (int p : outside(-1, 2, 3)) {
            Probe.due("with two " + p, x.palette(p, 0), -1);
        }
        Probe.due("the first", x.palette(0, 0), 1);
        Probe.due("the last", x.palette(1, 0), 0);
    }

    static void p06_anotherWhat() {
        HueRash x = Probe.world(TEN_HUES.replace('0', '9') + "likes 0 9 7;likes 1 9 8;");
        for (int what = -5; what < 300; what++) {
            boolean part = what >= 100 && what < 200 && what % 10 < 3;
            boolean likes = what >= 200 && what < 220;
            if (what < 0 || what > 4 && !part && !likes) {
                Probe.due("what " + what, x.palette(0, what), -1);
            } else if (part) {
                Probe.due("part " + what, x.palette(0, what), 9);
            } else if (likes) {
                Probe.due("likes " + what, x.palette(0, what), what == 209 ? 7 : what == 219 ? 8 : 0);
            }
        }
        for (int what : outside(1000, -100, -200)) {
            Probe.due("what " + what, x.palette(0, what), -1);
        }
    }

    static void p06_partsOfAHueThatIsNotThere() {
        for (int hues = 0; hues < 10; hues++) {
            HueRash x = Probe.world("hue 1 2 3;".repeat(hues));
            for (int p = 0; p < 3; p++) {
                if (hues > 0) {
                    Probe.due("last hue", x.palette(0, 100 + 10 * (hues - 1) + p), p + 1);
                }
                Probe.due("next hue", x.palette(0, 100 + 10 * hues + p), -1);
            }
        }
    }

    static void p06_likesOfAHueThatIsNotThere() {
        for (int hues = 0; hues < 10; hues++) {
            HueRash x = Probe.world(BLACK.repeat(hues));
            for (int w = 0; w < 2; w++) {
                if (hues > 0) {
                    Probe.due("last hue", x.palette(0, 200 + 10 * w + hues - 1), 0);
                }
                Probe.due("next hue", x.palette(0, 200 + 10 * w + hues), -1);
            }
        }
    }

    static void p06_likesAre0AtFirst() {
        HueRash x = Probe.world("hue 0 0 0;hue 0 0 0;likes 1 0 9;");
        Probe.due("0's", x.palette(0, 200), 0);
        Probe.due("0's", x.palette(0, 201), 0);
        Probe.due("1's that was told", x.palette(0, 210), 9);
        Probe.due("1's", x.palette(0, 211), 0);
    }

    static void p06_withoutHues() {
        HueRash x = Probe.world("sum 0 54;");
        Probe.due("hues", x.palette(0, 0), 0);
        Probe.due("rules", x.palette(0, 1), 1);
        Probe.due("meek", x.palette(0, 2), 0);
        Probe.due("fierce", x.palette(0, 3), -1);
        Probe.due("dot", x.palette(0, 4), 0);
        Probe.due("part", x.palette(0, 100), -1);
        Probe.due("likes", x.palette(0, 200), -1);
    }

    static void p06_fierceWithoutClashes() {
        Probe.due("one hue", Probe.world(BLACK).palette(0, 3), 0);
        Probe.due("ten hues", Probe.world(TEN_HUES).palette(0, 3), 0);
    }

    static void p06_fierceOfSeveralTheLeast() {
        Probe.due("all alike", Probe.world(ALL_CLASH).palette(0, 3), 0);
        Probe.due("2 and 3", Probe.world(BLACK.repeat(4) + "pair 3 2;").palette(0, 3), 2);
        Probe.due("the last has more", Probe.world(TEN_HUES + "pair 0 1;pair 2 9;pair 9 3;").palette(0, 3), 9);
    }

    static void p06_fierceByHuesNotByStrength() {
        Probe.due("fierce", Probe.world(TEN_HUES + "pair 0 1;pair 0 1;pair 0 1;pair 5 6;pair 6 7;").palette(0, 3), 6);
    }

    static void p06_meekAllAndNone() {
        Probe.due("all", Probe.world(TEN_HUES).palette(0, 2), 1023);
        Probe.due("none", Probe.world(ALL_CLASH).palette(0, 2), 0);
        Probe.due("the last", Probe.world(TEN_HUES + "pair 0 1;pair 2 3;pair 4 5;pair 6 7;pair 0 8;").palette(0, 2), 512);
        Probe.due("one alone clashes with none", Probe.world("hue 5 5 5;sum 0 54;").palette(0, 2), 1);
    }

    static void p06_dotThatThereIsNone() {
        Probe.due("none", Probe.world(BLACK + "sum 0 27;").palette(0, 4), -1);
        Probe.due("the last one", Probe.world(BLACK + "sum 0 26;").palette(0, 4), 999);
        Probe.due("none by two", Probe.world("hue 0 0 0;hue 9 0 0;gap 0 5;").palette(0, 4), -1);
        Probe.due("one by two", Probe.world("hue 0 0 0;hue 9 0 0;gap 0 6;").palette(0, 4), 400);
    }

    static void p06_dotOfSeveralTheLeastNumber() {
        Probe.due("1 part", Probe.world(BLACK + "sum 0 0;").palette(0, 4), 1);
        Probe.due("2 parts", Probe.world(BLACK + "sum 0 1;").palette(0, 4), 2);
        Probe.due("2 parts, not 2 blue", Probe.world(BLACK + "sum 0 1;gap 2 2;").palette(0, 4), 11);
        Probe.due("fewer parts, greater number", Probe.world("hue 1 0 0;sum 1 1;gap 2 1;gap 1 1;").palette(0, 4), 100);
        Probe.due("black", Probe.world("hue 9 9 9;").palette(0, 4), 0);
    }

    static void p06_dotOfTheLeastPartsTogether() {
        // 002, 020 come before 100, but have more parts
        Probe.due("not 002", Probe.world(BLACK + "sum 0 54;cure 0 1;cure 2 2;").palette(0, 4), 100);
        Probe.due("not 020", Probe.world(BLACK + "sum 0 54;cure 0 1;cure 1 2;").palette(0, 4), 100);
        Probe.due("not 011", Probe.world(BLACK + "sum 0 1;gap 2 2;cure 0 1;").palette(0, 4), 100);
    }

    static void p06_dotByACure() {
        Probe.due("red", Probe.world("hue 1 0 0;sum 0 54;cure 0 10;").palette(0, 4), 900);
        Probe.due("yellow", Probe.world("hue 0 1 0;sum 0 54;cure 1 10;").palette(0, 4), 90);
        Probe.due("blue", Probe.world("hue 0 0 1;sum 0 54;cure 2 10;").palette(0, 4), 9);
        Probe.due("not red", Probe.world("hue 1 0 0;sum 0 54;cure 0 11;").palette(0, 4), -1);
        Probe.due("not yellow", Probe.world("hue 0 1 0;sum 0 54;cure 1 11;").palette(0, 4), -1);
        Probe.due("not blue", Probe.world("hue 0 0 1;sum 0 54;cure 2 11;").palette(0, 4), -1);
        Probe.due("two hues", Probe.world("hue 0 0 0;hue 0 0 9;sum 0 54;cure 2 9;cure 0 9;").palette(0, 4), 9);
    }

    static void p06_dotOfATextInThePlaceOfOne() {
        HueRash x = Probe.world("hue 0 0 0;hue 9 9 9;sum 0 0;gap 0 1;cure 1 1;");
        Probe.due("old", x.palette(0, 4), 1);
        Probe.retold(x, 0, 0, "hue 0 0 0;hue 9 9 9;gap 1 9;");
        Probe.due("no gap of red, no cure of yellow", x.palette(0, 4), 10);
        Probe.retold(x, 0, 0, "hue 0 0 0;hue 0 0 0;gap 0 1;gap 1 1;gap 2 1;");
        Probe.due("no sum", x.palette(0, 4), 0);
        Probe.retold(x, 0, 0, "hue 0 0 0;sum 0 27;");
        Probe.due("no cure", x.palette(0, 4), -1);
        Probe.retold(x, 0, 0, "hue 0 0 0;sum 0 0;");
        Probe.due("sum 0", x.palette(0, 4), 1);
        Probe.retold(x, 0, 0, "hue 0 0 0;sum 27 27;");
        Probe.due("no sum of 0 or 1", x.palette(0, 4), 0);
        Probe.retold(x, 0, 0, "hue 0 0 0;sum 0 26;");
        Probe.due("no sum of 27", x.palette(0, 4), 999);
    }

    static void p06_dotIsNoHue() {
        Probe.due("a pair is none of a dot's", Probe.world(BLACK.repeat(2) + "pair 0 1;").palette(0, 4), 0);
        // the hue does not clash with itself, a colour of its parts does
        Probe.due("a hue's own parts", Probe.world(BLACK + "sum 0 0;").palette(0, 4), 1);
    }

    // ---- rules ----

    static void p07_noneSuch() {
        HueRash x = Probe.world("");
        for (int k : outside(-1, 0, 1, 6)) {
            Probe.due("without rules " + k, x.rule(0, k, 0), -2);
        }
        x = Probe.world("sum 1 2;gap 0 1;like 0;cure 0 1;like 0;cure 2 18;");
        for (int k : outside(-1, 6, 7)) {
            for (int what = 0; what < 3; what++) {
                Probe.due("rule " + k, x.rule(0, k, what), -2);
            }
        }
        Probe.due("the first", x.rule(0, 0, 0), 0);
        Probe.due("the last", x.rule(0, 5, 0), 4);
        Probe.due("the last", x.rule(0, 5, 2), 18);
        for (int p : outside(-1, 1, 2)) {
            Probe.due("palette " + p, x.rule(p, 0, 0), -2);
        }
    }

    static void p07_anotherWhat() {
        HueRash x = Probe.world("sum 1 2;like 0;");
        for (int what : outside(-1, 3, 4)) {
            Probe.due("what " + what, x.rule(0, 0, what), -2);
            Probe.due("what " + what, x.rule(0, 1, what), -2);
        }
    }

    static void p07_noneWithoutASecondNumber() {
        HueRash x = Probe.world("sum 3 4;like 2;gap 1 2;like 0;hue 0 0 0;hue 0 0 0;pair 1 0;cure 2 7;");
        int[][] due = {{0, 3, 4}, {2, 2, -1}, {1, 1, 2}, {2, 0, -1}, {3, 1, 0}, {4, 2, 7}};
        for (int k = 0; k < 6; k++) {
            for (int what = 0; what < 3; what++) {
                Probe.due("rule " + k + " what " + what, x.rule(0, k, what), due[k][what]);
            }
        }
    }

    private static void strength(String rule, String hues, int due) {
        HueRash x = Probe.world(hues + rule);
        Probe.due("strength of " + hues + rule, x.strength(0, 0, 1), due);
        Probe.due("strength of " + hues + rule, x.strength(0, 1, 0), due);
    }

    static void p08_sumsFirstAndLast() {
        String seven = "hue 1 2 0;hue 0 1 3;";
        strength("sum 0 6;", seven, 0);
        strength("sum 0 7;", seven, 1);
        strength("sum 7 7;", seven, 1);
        strength("sum 7 54;", seven, 1);
        strength("sum 8 54;", seven, 0);
        strength("sum 0 0;", BLACK + BLACK, 1);
        strength("sum 1 54;", BLACK + BLACK, 0);
        strength("sum 54 54;", "hue 9 9 9;hue 9 9 9;", 1);
        strength("sum 0 53;", "hue 9 9 9;hue 9 9 9;", 0);
        strength("sum 54 54;", "hue 9 9 9;hue 9 9 8;", 0);
    }

    static void p08_gapsFirst() {
        String[] hues = {"hue 0 5 5;hue 9 5 5;", "hue 5 0 5;hue 5 9 5;", "hue 5 5 0;hue 5 5 9;"};
        for (int p = 0; p < 3; p++) {
            for (int q = 0; q < 3; q++) {
                strength("gap " + q + " 9;", hues[p], p == q ? 1 : 0);
                strength("gap " + q + " 9;", hues[p].replace('9', '8'), 0);
                strength("gap " + q + " 8;", hues[p].replace('9', '8'), p == q ? 1 : 0);
                strength("gap " + q + " 1;", hues[p].replace('9', '1'), p == q ? 1 : 0);
                strength("gap " + q + " 1;", hues[p].replace('9', '0'), 0);
            }
        }
    }

    static void p08_likesAbove0() {
        String[] hues = {"hue 1 0 0;hue 1 9 9;", "hue 0 1 0;hue 9 1 9;", "hue 0 0 1;hue 9 9 1;"};
        for (int p = 0; p < 3; p++) {
            for (int q = 0; q < 3; q++) {
                strength("like " + q + ";", hues[p], p == q ? 1 : 0);
            }
            strength("like " + p + ";", hues[p].replace('1', '0'), 0);
        }
        strength("like 0;", "hue 9 0 0;hue 9 0 0;", 1);
        strength("like 0;", "hue 9 0 0;hue 8 0 0;", 0);
        strength("like 0;", "hue 1 0 0;hue 0 0 0;", 0);
    }

    static void p08_pairsBothWays() {
        strength("pair 0 1;", BLACK + BLACK, 1);
        strength("pair 1 0;", BLACK + BLACK, 1);
        HueRash x = Probe.world(TEN_HUES + "pair 8 9;");
        for (int a = 0; a < 10; a++) {
            for (int b = 0; b < 10; b++) {
                Probe.due("strength " + a + " " + b, x.strength(0, a, b), a + b == 17 ? 1 : 0);
            }
        }
    }

    static void p08_curesFirst() {
        String[] hues = {"hue 4 0 0;hue 3 0 0;", "hue 0 4 0;hue 0 3 0;", "hue 0 0 4;hue 0 0 3;"};
        for (int p = 0; p < 3; p++) {
            for (int q = 0; q < 3; q++) {
                strength("pair 0 1;cure " + q + " 7;", hues[p], p == q ? 0 : 1);
                strength("pair 0 1;cure " + q + " 8;", hues[p], 1);
            }
        }
        strength("pair 0 1;cure 0 18;", "hue 9 0 0;hue 9 0 0;", 0);
        strength("pair 0 1;cure 0 18;", "hue 9 0 0;hue 8 0 0;", 1);
        strength("pair 0 1;cure 0 1;", "hue 0 0 0;hue 1 0 0;", 0);
        strength("pair 0 1;cure 0 1;", "hue 0 0 0;hue 0 9 9;", 1);
    }

    static void p08_howManyRulesHold() {
        strength("", BLACK + BLACK, 0);
        strength("pair 0 1;pair 0 1;pair 1 0;sum 0 0;sum 0 54;sum 0 1;", BLACK + BLACK, 6);
        strength("pair 0 1;pair 0 1;pair 1 0;sum 0 0;sum 0 54;cure 0 1;", BLACK + BLACK, 5);
        strength("gap 0 1;like 0;pair 0 1;sum 1 1;", BLACK + BLACK, 1);
    }

    static void p08_strength0ByAnyCure() {
        strength("cure 1 2;pair 0 1;pair 0 1;pair 1 0;sum 2 2;", "hue 0 1 0;hue 0 1 0;", 0);
        strength("pair 0 1;pair 0 1;pair 1 0;sum 2 2;cure 0 1;cure 1 2;", "hue 0 1 0;hue 0 1 0;", 0);
        strength("pair 0 1;cure 0 1;cure 1 3;", "hue 0 1 0;hue 0 1 0;", 1);
        strength("cure 1 1;", "hue 0 1 0;hue 0 1 0;", 0);
    }

    static void p08_neverWithItself() {
        HueRash x = Probe.world("hue 1 1 1;".repeat(10) + "sum 0 54;like 0;like 1;");
        for (int h = 0; h < 10; h++) {
            Probe.due("strength " + h, x.strength(0, h, h), 0);
        }
        Probe.due("two of the same parts may", x.strength(0, 0, 9), 3);
    }

    static void p08_noneSuch() {
        HueRash x = Probe.world(THREE);
        for (int h : outside(-1, 3, 4, 10)) {
            Probe.due("strength", x.strength(0, h, 0), -1);
            Probe.due("strength", x.strength(0, 0, h), -1);
            Probe.due("strength", x.strength(0, h, h), -1);
        }
        for (int p : outside(-1, 1, 2)) {
            Probe.due("palette " + p, x.strength(p, 0, 0), -1);
        }
        Probe.due("last", x.strength(0, 2, 2), 0);
        Probe.due("without hues", Probe.world("").strength(0, 0, 0), -1);
        x = Probe.world(TEN_HUES);
        Probe.due("the tenth", x.strength(0, 9, 9), 0);
        Probe.due("an eleventh", x.strength(0, 10, 9), -1);
        Probe.due("an eleventh", x.strength(0, 9, 10), -1);
    }

    static void p09_noneSuch() {
        HueRash x = Probe.world(THREE);
        for (int h : outside(-1, 3, 10)) {
            Probe.due("hue " + h, x.minds(0, h, 0, 0, 0), -1);
        }
        for (int p : outside(-1, 1, 2)) {
            Probe.due("palette " + p, x.minds(p, 0, 0, 0, 0), -1);
        }
        Probe.due("the last", x.minds(0, 2, 0, 0, 0), 0);
        Probe.due("without hues", Probe.world("").minds(0, 0, 0, 0, 0), -1);
    }

    static void p09_otherParts() {
        HueRash x = Probe.world(BLACK + "gap 0 9;gap 1 9;gap 2 9;");
        for (int part : outside(-1, 10, 99)) {
            Probe.due("red", x.minds(0, 0, part, 0, 0), -1);
            Probe.due("yellow", x.minds(0, 0, 0, part, 0), -1);
            Probe.due("blue", x.minds(0, 0, 0, 0, part), -1);
        }
        Probe.due("red 9", x.minds(0, 0, 9, 0, 0), 1);
        Probe.due("yellow 9", x.minds(0, 0, 0, 9, 0), 1);
        Probe.due("blue 9", x.minds(0, 0, 0, 0, 9), 1);
        Probe.due("all 9", x.minds(0, 0, 9, 9, 9), 3);
        Probe.due("all 0", x.minds(0, 0, 0, 0, 0), 0);
    }

    static void p09_aColourHasNoPair() {
        HueRash x = Probe.world("hue 1 2 3;hue 4 5 6;pair 0 1;");
        Probe.due("of the other's parts", x.minds(0, 0, 4, 5, 6), 0);
        Probe.due("of its own", x.minds(0, 1, 4, 5, 6), 0);
        Probe.due("the hues", x.strength(0, 0, 1), 1);
    }

    static void p09_aColourOfAHuesOwnPartsMayClashWithIt() {
        HueRash x = Probe.world("hue 1 1 1;like 0;like 1;like 2;sum 6 6;");
        Probe.due("colour", x.minds(0, 0, 1, 1, 1), 4);
        Probe.due("hue", x.strength(0, 0, 0), 0);
    }

    static void p09_theRulesEdges() {
        HueRash x = Probe.world("hue 3 0 0;sum 5 6;gap 1 4;like 0;cure 2 9;");
        int[][] due = {{0, 0, 0, 0}, {1, 0, 0, 0}, {2, 0, 0, 1}, {0, 3, 0, 1}, {0, 4, 0, 1}, {3, 0, 0, 2}, {3, 1, 0, 1},
            {3, 4, 0, 2}, {0, 0, 8, 0}, {3, 0, 8, 1}, {3, 0, 9, 0}, {3, 9, 9, 0}};
        for (int[] d : due) {
            Probe.due("minds " + d[0] + d[1] + d[2], x.minds(0, 0, d[0], d[1], d[2]), d[3]);
        }
    }

    // ---- galleries and days as told ----

    static void p10_noneSuch() {
        HueRash x = new HueRash();
        Probe.due("without", x.gallery(0, 0), -1);
        Probe.told(x, 1, "limit 1;", 0);
        for (int g : outside(-1, 1, 2)) {
            Probe.due("gallery " + g, x.gallery(g, 1), -1);
        }
        Probe.due("gallery 0", x.gallery(0, 1), 1);
        Probe.told(x, 1, "limit 2;", 1);
        Probe.due("gallery 1", x.gallery(1, 1), 2);
        Probe.due("gallery 2", x.gallery(2, 1), -1);
    }

    static void p10_anotherWhat() {
        HueRash x = Probe.world(null, "picture 4 7;".repeat(9));
        for (int what = -3; what < 50; what++) {
            boolean hue = what >= 10 && what < 19;
            boolean area = what >= 20 && what < 29;
            int due = what == 0 ? 9 : what == 1 ? 10 : hue ? 4 : area ? 7 : -1;
            Probe.due("what " + what, x.gallery(0, what), due);
        }
        for (int what : outside(100, -10)) {
            Probe.due("what " + what, x.gallery(0, what), -1);
        }
    }

    static void p10_aPictureThatIsNotThere() {
        for (int pictures = 0; pictures < 9; pictures++) {
            HueRash x = Probe.world(null, "picture 9 8;".repeat(pictures));
            Probe.due("pictures", x.gallery(0, 0), pictures);
            Probe.due("next hue", x.gallery(0, 10 + pictures), -1);
            Probe.due("next area", x.gallery(0, 20 + pictures), -1);
            Probe.due("last hue", x.gallery(0, 9 + pictures), pictures == 0 ? -1 : 9);
            Probe.due("last area", x.gallery(0, 19 + pictures), pictures == 0 ? -1 : 8);
        }
    }

    static void p10_limitIs10AtFirst() {
        Probe.due("limit", Probe.world(null, "picture 0 1;").gallery(0, 1), 10);
        Probe.due("told", Probe.world(null, "limit 11;").gallery(0, 1), 11);
    }

    static void p11_howMany() {
        HueRash x = Probe.world(null, null, "hour;");
        Probe.told(x, 2, "", 1);
        Probe.due("one", x.deed(0, -1, 0), 1);
        Probe.due("none", x.deed(1, -1, 0), 0);
        for (int what : outside(-1, 1, 2, 3)) {
            Probe.due("how many, what " + what, x.deed(0, -1, what), -2);
        }
    }

    static void p11_noneSuch() {
        HueRash x = Probe.world(null, null, "take 8;" + "hour;".repeat(38) + "leave 5;");
        for (int k : outside(-2, 40, 41)) {
            Probe.due("deed " + k, x.deed(0, k, 0), -2);
        }
        Probe.due("the first", x.deed(0, 0, 0), 1);
        Probe.due("the last", x.deed(0, 39, 0), 4);
        Probe.due("the last", x.deed(0, 39, 1), 5);
        for (int d : outside(-1, 1, 2)) {
            Probe.due("day " + d, x.deed(d, 0, 0), -2);
            Probe.due("day " + d, x.deed(d, -1, 0), -2);
        }
        Probe.told(x, 2, "", 1);
        Probe.due("an empty day's", x.deed(1, 0, 0), -2);
        x = Probe.world(null, null, "hour;take 1;");
        Probe.due("one behind the last", x.deed(0, 2, 0), -2);
        Probe.due("the last", x.deed(0, 1, 0), 1);
    }

    static void p11_anotherWhat() {
        HueRash x = Probe.world(null, null, "hang 1 2;");
        for (int what : outside(-1, 3, 4)) {
            Probe.due("what " + what, x.deed(0, 0, what), -2);
        }
    }

    static void p11_noneWithoutANumber() {
        HueRash x = Probe.world(null, null, "hang 8 3;take 7;wear 5 9;enter 4 2;leave 3;hour;hang 0 0;");
        int[][] due = {{0, 8, 3}, {1, 7, -1}, {2, 5, 9}, {3, 4, 2}, {4, 3, -1}, {5, -1, -1}, {0, 0, 0}};
        for (int k = 0; k < due.length; k++) {
            for (int what = 0; what < 3; what++) {
                Probe.due("deed " + k + " what " + what, x.deed(0, k, what), due[k][what]);
            }
        }
    }

    // ---- days gone through ----

    private static final String TWO_PICTURES = "picture 0 2;picture 1 9;";

    private static void stop(String day, int due) {
        HueRash x = Probe.world(THREE, TWO_PICTURES, day);
        Probe.due("stop of " + day, x.stop(0, 0, 0), due);
        Probe.due("state behind " + due + " of " + day, x.state(0, 0, 0, due, 0) >= 0, true);
        Probe.due("state behind one more of " + day, x.state(0, 0, 0, due + 1, 0), -2);
    }

    static void p12_howManyThereAre() {
        stop("", 0);
        stop("hour;", 1);
        stop("hour;".repeat(40), 40);
    }

    static void p12_theFirstThatCantBe() {
        stop("take 0;hour;", 0);
        stop("hour;take 0;take 0;hour;", 1);
        stop("hour;".repeat(39) + "take 0;", 39);
    }

    static void p12_hangWhatHangsNowhere() {
        stop("hang 0 0;hang 1 0;", 2);
        stop("hang 0 0;hang 0 0;", 1);
        stop("hang 0 0;hang 0 3;", 1);
        stop("hang 0 3;take 0;hang 0 0;", 3);
    }

    static void p12_takeWhatHangs() {
        stop("take 0;", 0);
        stop("hang 0 0;take 1;", 1);
        stop("hang 1 3;take 1;", 2);
        stop("hang 1 3;take 1;take 1;", 2);
    }

    static void p12_noSuchPicture() {
        stop("hang 2 0;", 0);
        stop("hang 1 0;", 1);
        stop("take 2;", 0);
        stop("hang 8 0;", 0);
        HueRash x = Probe.world(BLACK, "picture 0 1;".repeat(9), "hang 8 0;take 8;");
        Probe.due("the ninth", x.stop(0, 0, 0), 2);
        Probe.due("without pictures", Probe.world(BLACK, "", "hang 0 0;").stop(0, 0, 0), 0);
    }

    static void p12_noSuchHueToWear() {
        stop("wear 0 2;", 1);
        stop("wear 0 3;", 0);
        stop("wear 5 9;", 0);
        Probe.due("the tenth", Probe.world(TEN_HUES, "", "wear 0 9;").stop(0, 0, 0), 1);
        Probe.due("without hues", Probe.world("", "", "wear 0 0;").stop(0, 0, 0), 0);
    }

    static void p12_wearAtAnyTime() {
        stop("wear 0 0;wear 0 0;wear 0 1;enter 0 0;wear 0 2;leave 0;wear 0 0;", 7);
    }

    static void p12_enterWhoIsOut() {
        stop("enter 0 0;enter 0 0;", 1);
        stop("enter 5 3;enter 5 0;", 1);
        stop("enter 0 0;enter 1 0;enter 5 0;", 3);
        stop("enter 0 3;leave 0;enter 0 3;", 3);
    }

    static void p12_leaveWhoIsIn() {
        stop("leave 0;", 0);
        stop("enter 0 0;leave 1;", 1);
        stop("enter 0 0;leave 0;leave 0;", 2);
        stop("enter 5 3;leave 5;", 2);
    }

    static void p12_doesNotFit() {
        for (int hues = 0; hues < 10; hues++) {
            HueRash x = Probe.world(BLACK.repeat(hues), "picture " + hues + " 1;", "hour;");
            Probe.due("one hue too few", x.stop(0, 0, 0), -1);
            Probe.retold(x, 0, 0, BLACK.repeat(hues + 1));
            Probe.due("as many as needed", x.stop(0, 0, 0), 1);
        }
    }

    static void p12_noneSuch() {
        HueRash x = Probe.world("", "", "");
        for (int other : outside(-1, 1, 2)) {
            Probe.due("palette " + other, x.stop(other, 0, 0), -1);
            Probe.due("gallery " + other, x.stop(0, other, 0), -1);
            Probe.due("day " + other, x.stop(0, 0, other), -1);
        }
        Probe.due("all are there", x.stop(0, 0, 0), 0);
        Probe.due("no palette", Probe.world(null, "", "").stop(0, 0, 0), -1);
        Probe.due("no gallery", Probe.world("", null, "").stop(0, 0, 0), -1);
        Probe.due("no day", Probe.world("", "").stop(0, 0, 0), -1);
    }

    private static void states(HueRash x, int n, int... whatsAndDues) {
        for (int k = 0; k < whatsAndDues.length; k += 2) {
            Probe.due("behind " + n + " what " + whatsAndDues[k], x.state(0, 0, 0, n, whatsAndDues[k]), whatsAndDues[k + 1]);
        }
    }

    static void p13_atTheBeginning() {
        HueRash x = Probe.world(THREE, TWO_PICTURES, "hour;");
        states(x, 0, 0, 0, 1, 0, 2, -1, 3, -1, 10, -1, 11, -1, 20, 2, 21, 9);
        for (int p = 0; p < 6; p++) {
            states(x, 0, 30 + p, -1, 40 + p, -1, 50 + p, 0);
        }
        states(x, 0, 60, 0, 61, 0, 62, 0, 63, 0);
    }

    static void p13_nUpToStop() {
        HueRash x = Probe.world(THREE, TWO_PICTURES, "hour;hour;take 0;hour;");
        states(x, 0, 0, 0);
        states(x, 2, 0, 2);
        for (int n : outside(-1, 3, 4, 5)) {
            states(x, n, 0, -2);
        }
        x = Probe.world(THREE, TWO_PICTURES, "hour;".repeat(40));
        states(x, 40, 0, 40);
        states(x, 41, 0, -2);
    }

    static void p13_anotherWhat() {
        HueRash x = Probe.world(THREE, TWO_PICTURES, "hour;");
        for (int what = -3; what < 80; what++) {
            boolean in = what >= 0 && what < 4 || what == 10 || what == 11 || what == 20 || what == 21
                || what >= 30 && what < 60 && what % 10 < 6 || what >= 60 && what < 64;
            Probe.due("what " + what, x.state(0, 0, 0, 1, what) == -2, !in);
        }
        for (int what : outside(110, 1000, -10)) {
            Probe.due("what " + what, x.state(0, 0, 0, 1, what), -2);
        }
    }

    static void p13_theNinthPicture() {
        HueRash x = Probe.world(BLACK, "picture 0 7;".repeat(9), "hang 8 3;");
        states(x, 1, 18, 3, 28, 7, 17, -1, 19, -2, 29, -2);
        x = Probe.world(BLACK, "picture 0 7;".repeat(8), "");
        states(x, 0, 17, -1, 27, 7, 18, -2, 28, -2);
        x = Probe.world(BLACK, "", "");
        states(x, 0, 10, -2, 20, -2);
    }

    static void p13_doesNotFit() {
        HueRash x = Probe.world(THREE, "picture 3 1;", "");
        states(x, 0, 0, -2);
        Probe.retold(x, 1, 0, "picture 2 1;");
        states(x, 0, 0, 0);
    }

    static void p13_noneSuch() {
        HueRash x = Probe.world("", "", "");
        for (int other : outside(-1, 1, 2)) {
            Probe.due("palette " + other, x.state(other, 0, 0, 0, 0), -2);
            Probe.due("gallery " + other, x.state(0, other, 0, 0, 0), -2);
            Probe.due("day " + other, x.state(0, 0, other, 0, 0), -2);
        }
        Probe.due("all are there", x.state(0, 0, 0, 0, 0), 0);
    }

    static void p13_theFirstAndTheLastRoom() {
        for (int room = 0; room < 4; room++) {
            HueRash x = Probe.world(THREE, "picture 1 9;picture 2 9;limit 1;",
                "hang 0 " + room + ";hang 1 " + room + ";enter 5 " + room + ";hour;");
            for (int r = 0; r < 4; r++) {
                states(x, 3, 60 + r, r == room ? 2 : 0);
            }
            states(x, 4, 1, 2, 2, 0, 3, room, 10, room, 35, room, 55, 2, 20, 8, 21, 8);
        }
    }

    static void p13_otherRoomsDoNotClash() {
        HueRash x = Probe.world(THREE, "picture 1 9;picture 2 9;limit 0;", "hang 0 0;hang 1 1;enter 0 2;wear 0 1;hour;");
        states(x, 5, 0, 1, 1, 0, 2, -1, 20, 9, 21, 9, 50, 0);
    }

    static void p13_areaLeft() {
        // 0 fades away in the first hour, and is no thing in the second one; 1 stays as it is then
        HueRash x = Probe.world(THREE, "picture 1 1;picture 2 3;", "hang 0 0;hang 1 0;hour;hour;");
        states(x, 2, 20, 1, 60, 2);
        states(x, 3, 20, 0, 21, 2, 60, 0, 1, 2, 10, 0);
        states(x, 4, 20, 0, 21, 2, 60, 0, 1, 2, 0, 2);
    }

    static void p13_aFadedPictureMayBeTakenAndHung() {
        HueRash x = Probe.world(THREE, "picture 1 1;picture 2 3;", "hang 0 0;hang 1 0;hour;take 0;hang 0 2;");
        states(x, 5, 10, 2, 20, 0);
    }

    static void p13_aNewAreaLastsNineHours() {
        HueRash x = Probe.world(THREE, "picture 1 9;limit 99;", "hang 0 0;wear 0 2;enter 0 0;" + "hour;".repeat(11));
        states(x, 11, 20, 1, 60, 2, 1, 16, 50, 16);
        states(x, 12, 20, 0, 60, 0, 1, 18, 50, 18);
        states(x, 14, 20, 0, 1, 18, 50, 18, 0, 11);
    }

    static void p13_onceAnHourWithSeveral() {
        HueRash x = Probe.world(ALL_CLASH, "picture 0 5;picture 1 5;picture 2 5;", "hang 0 0;hang 1 0;hang 2 0;hour;");
        states(x, 4, 1, 3, 20, 4, 21, 4, 22, 4);
    }

    static void p13_allFadeTogether() {
        // each of 0 and 1 has an area of 1: both fade in the same hour, though 0 is looked at first
        HueRash x = Probe.world(THREE, "picture 0 1;picture 1 1;", "hang 0 0;hang 1 0;hour;");
        states(x, 3, 20, 0, 21, 0, 1, 1);
        // what fades in room 0 changes nothing in room 3, where 2 is
        x = Probe.world(ALL_CLASH, "picture 0 1;picture 1 1;picture 2 1;picture 0 1;",
            "hang 0 0;hang 1 0;hang 2 3;hang 3 3;hour;");
        states(x, 5, 20, 0, 21, 0, 22, 0, 23, 0, 1, 2);
    }

    static void p13_whatClashesNotFadesNot() {
        HueRash x = Probe.world(THREE, "picture 0 5;picture 2 5;picture 0 5;", "hang 0 0;hang 1 0;hang 2 0;hour;");
        states(x, 4, 20, 5, 21, 5, 22, 5, 1, 0);
    }

    static void p13_onlyWhatClashesFades() {
        HueRash x = Probe.world(THREE, "picture 0 5;picture 1 5;picture 2 5;picture 0 5;", "hang 0 0;hang 2 0;wear 0 1;"
            + "enter 0 1;hang 1 1;hang 3 1;hour;");
        // in room 1 picture 3 clashes with picture 1 and with what 0 has on
        states(x, 7, 20, 5, 22, 5, 21, 4, 23, 4, 1, 2, 50, 2);
    }

    static void p13_clothesClashWithClothes() {
        HueRash x = Probe.world(THREE, "", "wear 0 1;wear 5 2;enter 0 3;enter 5 3;enter 1 3;hour;");
        states(x, 6, 1, 2, 50, 2, 51, 2, 55, 2, 52, 0, 63, 2);
    }

    static void p13_sameHueTwiceClashesNot() {
        HueRash x = Probe.world(ALL_CLASH, "picture 0 5;picture 0 5;", "hang 0 0;hang 1 0;wear 0 0;wear 1 0;enter 0 0;"
            + "enter 1 0;hour;");
        states(x, 7, 1, 0, 20, 5, 50, 0);
    }

    static void p13_whoWearsNothingSneezes() {
        HueRash x = Probe.world(THREE, "picture 1 5;picture 2 5;", "hang 0 0;hang 1 0;enter 3 0;enter 4 1;hour;");
        states(x, 5, 43, -1, 53, 2, 54, 0);
    }

    static void p13_whoIsOutSneezesNot() {
        HueRash x = Probe.world(THREE, "picture 1 5;picture 2 5;", "hang 0 0;hang 1 0;wear 3 0;hour;enter 3 0;leave 3;hour;");
        states(x, 7, 53, 0, 1, 4, 33, -1, 43, 0);
    }

    static void p13_aboveTheLimit() {
        HueRash x = Probe.world(THREE, "picture 1 9;picture 2 9;limit 2;", "hang 0 0;hang 1 0;hour;");
        states(x, 3, 2, -1, 3, -1);
        Probe.retold(x, 1, 0, "picture 1 9;picture 2 9;limit 1;");
        states(x, 2, 2, -1, 3, -1);
        states(x, 3, 2, 0, 3, 0);
        Probe.retold(x, 1, 0, "picture 1 9;picture 0 9;limit 0;");
        states(x, 3, 2, 0, 3, 0);
        Probe.retold(x, 1, 0, "picture 0 9;picture 0 9;limit 0;");
        states(x, 3, 2, -1, 3, -1);
    }

    static void p13_aRoomsRashNotAllRooms() {
        HueRash x = Probe.world(THREE, "picture 1 9;picture 2 9;picture 1 9;picture 2 9;limit 3;",
            "hang 0 0;hang 1 0;hang 2 1;hang 3 1;hour;hour;");
        states(x, 6, 1, 8, 2, -1);
    }

    static void p13_theFirstForbiddenHour() {
        HueRash x = Probe.world(THREE, "picture 1 9;picture 2 9;limit 0;", "hour;hour;hang 0 3;hang 1 3;hour;take 1;"
            + "take 0;hang 0 1;hang 1 1;hour;");
        states(x, 4, 2, -1, 3, -1);
        states(x, 5, 2, 2, 3, 3);
        states(x, 10, 2, 2, 3, 3, 0, 4);
    }

    static void p13_ofSeveralRoomsTheLeast() {
        HueRash x = Probe.world(THREE, "picture 1 9;picture 2 9;picture 1 9;picture 0 9;limit 0;",
            "hang 0 3;hang 1 3;hang 2 2;hang 3 2;hour;");
        states(x, 5, 62, 1, 63, 2, 2, 0, 3, 2);
    }

    static void p13_fifteenThings() {
        // five people wear 1, one 0: they clash with each other 5 times, with nine pictures of 2 10 times each 5
        HueRash x = Probe.world(THREE, "picture 2 9;".repeat(9) + "limit 99;", "hang 0 0;hang 1 0;hang 2 0;hang 3 0;"
            + "hang 4 0;hang 5 0;hang 6 0;hang 7 0;hang 8 0;wear 0 1;wear 1 1;wear 2 1;wear 3 1;wear 4 1;wear 5 0;"
            + "enter 0 0;enter 1 0;enter 2 0;enter 3 0;enter 4 0;enter 5 0;hour;");
        Probe.due("stop", x.stop(0, 0, 0), 22);
        states(x, 21, 60, 95);
        states(x, 22, 1, 95, 55, 95, 28, 8, 2, -1);
    }

    // ---- galleries in themselves ----

    private static void hung(String colours, String pictures, int rooms, int shown, int hidden, int worst, int all) {
        HueRash x = Probe.world(colours, pictures);
        int[] due = {rooms, shown, hidden, worst, all};
        for (int what = 0; what < 5; what++) {
            Probe.due("hung " + what + " of " + colours + pictures, x.hung(0, 0, what), due[what]);
        }
    }

    static void p14_withoutPictures() {
        hung(THREE, "", 0, 0, 0, -1, 0);
        hung("", "", 0, 0, 0, -1, 0);
    }

    static void p14_onePicture() {
        hung(ALL_CLASH, "picture 2 9;", 1, 1, 0, 0, 0);
    }

    static void p14_nobodyClashes() {
        hung(BLACK, "picture 0 1;".repeat(9), 1, 1, 0, 0, 0);
    }

    static void p14_allClash() {
        String nine = "";
        for (int h = 0; h < 9; h++) {
            nine += "picture " + h + " 1;";
        }
        hung(TEN_HUES + "sum 0 0;", nine, 9, 511, 255, 0, 36);
    }

    static void p14_sameHueTwice() {
        hung(ALL_CLASH, "picture 1 1;picture 1 1;", 1, 1, 0, 0, 0);
        hung(ALL_CLASH, "picture 1 1;picture 1 1;picture 0 1;", 2, 5, 4, 2, 2);
    }

    static void p14_shownOfSeveralTheLeast() {
        // 1 clashes with 0 and with 2; of the sets 3 and 6 the least is 3
        Probe.due("shown", Probe.world(THREE, "picture 0 1;picture 1 1;picture 2 1;").hung(0, 0, 1), 3);
        // the greatest is not the least number
        Probe.due("shown", Probe.world(TEN_HUES + "pair 0 1;pair 6 7;pair 7 8;pair 8 6;",
            "picture 0 1;picture 1 1;picture 2 1;picture 3 1;picture 4 1;picture 5 1;picture 6 1;picture 7 1;picture 8 1;")
            .hung(0, 0, 1), 448);
    }

    static void p14_curtainsOfSeveralTheLeast() {
        Probe.due("one of two", Probe.world(THREE, "picture 1 1;picture 2 1;").hung(0, 0, 2), 1);
        // to hide 1 is less than to hide 0 and 2, though 2 is the greater number
        Probe.due("the middle", Probe.world(THREE, "picture 0 1;picture 2 1;picture 1 1;").hung(0, 0, 2), 4);
    }

    static void p14_curtainsAreTheFewest() {
        // 3 1 0 2 4 in a row: 1 and 2 are enough; who hides 0 first, that clashes with two, needs three
        Probe.due("a row of five", Probe.world(BLACK.repeat(5) + "pair 3 1;pair 1 0;pair 0 2;pair 2 4;",
            "picture 0 1;picture 1 1;picture 2 1;picture 3 1;picture 4 1;").hung(0, 0, 2), 6);
        // a star: one is enough, also if it is the last
        Probe.due("a star", Probe.world(BLACK.repeat(5) + "pair 4 1;pair 4 0;pair 4 2;pair 4 3;",
            "picture 0 1;picture 1 1;picture 2 1;picture 3 1;picture 4 1;").hung(0, 0, 2), 16);
    }

    static void p14_worstOfSeveralTheLeast() {
        Probe.due("two alike", Probe.world(THREE, "picture 0 1;picture 1 1;").hung(0, 0, 3), 0);
        Probe.due("without clashes", Probe.world(THREE, "picture 0 1;picture 2 1;").hung(0, 0, 3), 0);
        Probe.due("the middle", Probe.world(THREE, "picture 0 1;picture 2 1;picture 1 1;").hung(0, 0, 3), 2);
        // by strengths, not by how many
        Probe.due("by strengths", Probe.world(BLACK.repeat(5) + "pair 0 1;pair 0 2;pair 3 4;pair 3 4;pair 3 4;",
            "picture 0 1;picture 1 1;picture 2 1;picture 4 1;picture 3 1;").hung(0, 0, 3), 3);
    }

    static void p14_roomsOfAChain() {
        hung(THREE, "picture 0 1;picture 2 1;picture 1 1;", 2, 5, 4, 2, 3);
        // an odd round of five needs three
        Probe.due("five round", Probe.world(BLACK.repeat(5) + "pair 0 1;pair 1 2;pair 2 3;pair 3 4;pair 4 0;",
            "picture 0 1;picture 1 1;picture 2 1;picture 3 1;picture 4 1;").hung(0, 0, 0), 3);
    }

    static void p14_roomsAreTheFewest() {
        // 0 2 and 1 3; who puts 0 and 3 together, the farthest that bear one another, needs three
        Probe.due("a row of four", Probe.world(BLACK.repeat(4) + "pair 0 1;pair 1 2;pair 2 3;",
            "picture 0 1;picture 1 1;picture 2 1;picture 3 1;").hung(0, 0, 0), 2);
        // 0 2 4 and 1 3 5; who puts 0 and 1 together, the first that bear one another, needs three
        String six = "pair 0 3;pair 0 5;pair 2 1;pair 2 5;pair 4 1;pair 4 3;";
        Probe.due("three and three", Probe.world(BLACK.repeat(6) + six,
            "picture 0 1;picture 1 1;picture 2 1;picture 3 1;picture 4 1;picture 5 1;").hung(0, 0, 0), 2);
    }

    static void p14_anotherWhat() {
        HueRash x = Probe.world(THREE, TWO_PICTURES);
        for (int what : outside(-1, -2, 5, 6, 10)) {
            Probe.due("what " + what, x.hung(0, 0, what), -2);
        }
        x = Probe.world("", "");
        for (int what : outside(-1, 5)) {
            Probe.due("what " + what, x.hung(0, 0, what), -2);
        }
    }

    static void p14_doesNotFit() {
        for (int what = 0; what < 5; what++) {
            Probe.due("hung " + what, Probe.world(THREE, "picture 0 1;picture 3 1;").hung(0, 0, what), -2);
            Probe.due("hung " + what, Probe.world("", "picture 0 1;").hung(0, 0, what), -2);
            Probe.due("it fits", Probe.world(TEN_HUES, "picture 9 1;").hung(0, 0, what) >= 0, true);
            Probe.due("hung " + what, Probe.world(BLACK.repeat(9), "picture 9 1;").hung(0, 0, what), -2);
        }
    }

    static void p14_noneSuch() {
        HueRash x = Probe.world("", "");
        for (int other : outside(-1, 1, 2)) {
            for (int what = 0; what < 5; what++) {
                Probe.due("palette " + other, x.hung(other, 0, what), -2);
                Probe.due("gallery " + other, x.hung(0, other, what), -2);
            }
        }
    }

    static void p15_withoutPictures() {
        Probe.due("one row, of none", Probe.world(THREE, "").rows(0, 0), 1);
        Probe.due("one row, of none", Probe.world("", "").rows(0, 0), 1);
    }

    static void p15_oneAndNine() {
        Probe.due("one", Probe.world(ALL_CLASH, "picture 1 1;").rows(0, 0), 1);
        Probe.due("nine", Probe.world(BLACK, "picture 0 1;".repeat(9)).rows(0, 0), 362880);
        Probe.due("nine, one clashes with four", Probe.world(THREE, "picture 0 1;".repeat(4) + "picture 2 1;"
            + "picture 0 1;".repeat(4)).rows(0, 0), 362880);
    }

    static void p15_noWay() {
        Probe.due("two that clash", Probe.world(THREE, "picture 0 1;picture 1 1;").rows(0, 0), 0);
        // 1 has no place beside any; 0 and 2 do
        Probe.due("three", Probe.world(THREE, "picture 0 1;picture 1 1;picture 2 1;").rows(0, 0), 0);
        Probe.due("two", Probe.world(THREE, "picture 0 1;picture 2 1;").rows(0, 0), 2);
    }

    static void p15_eachOfTwoPalettesAndGalleries() {
        HueRash x = Probe.world(BLACK + BLACK, "picture 0 1;picture 1 1;picture 1 1;");
        Probe.told(x, 0, BLACK + BLACK + "pair 0 1;", 1);
        Probe.told(x, 1, "picture 0 1;picture 1 1;", 1);
        for (int turn = 0; turn < 2; turn++) {
            Probe.due("0 0", x.rows(0, 0), 6);
            Probe.due("0 1", x.rows(0, 1), 2);
            Probe.due("1 0", x.rows(1, 0), 0);
            Probe.due("0 0", x.rows(0, 0), 6);
            Probe.due("1 1", x.rows(1, 1), 0);
            Probe.due("0 1", x.rows(0, 1), 2);
            Probe.due("loom 0", x.loom(0, 3), 2);
            Probe.due("loom 1", x.loom(1, 3), 0);
            Probe.due("loom 1 of one", x.loom(1, 2), 1);
            Probe.due("loom 0 of one", x.loom(0, 2), 1);
            for (int set = 0; set < 16; set++) {
                int there = Integer.bitCount(set & 3);
                Probe.due("loom 0 of " + set, x.loom(0, set), there < 2 ? 1 : 2);
                Probe.due("0 0", x.rows(0, 0), 6);
                Probe.due("loom 1 of " + set, x.loom(1, set), there < 2 ? 1 : 0);
                Probe.due("0 1", x.rows(0, 1), 2);
            }
        }
    }

    static void p15_loomsAndRowsOfTheSameNumbers() {
        // a palette of ten hues: each set's looms are other ones than those of the galleries, and of the other palette
        HueRash x = Probe.world(TEN_HUES, "picture 0 1;picture 1 1;picture 1 1;");
        Probe.told(x, 0, TEN_HUES + "sum 0 0;", 1);
        Probe.told(x, 1, "picture 0 1;picture 1 1;", 1);
        for (int set : new int[] {0, 1, 2, 3, 4, 5, 8, 9, 10, 11, 12, 512, 1023}) {
            int many = Integer.bitCount(set);
            long all = 1;
            for (int k = 2; k <= many; k++) {
                all *= k;
            }
            Probe.due("loom 1 of " + set, x.loom(1, set), many < 2 ? 1 : 0);
            Probe.due("1 0", x.rows(1, 0), 0);
            Probe.due("loom 0 of " + set, x.loom(0, set), all);
            Probe.due("0 1", x.rows(0, 1), 2);
            Probe.due("loom 1 of " + set, x.loom(1, set), many < 2 ? 1 : 0);
            Probe.due("0 0", x.rows(0, 0), 6);
            Probe.due("loom 0 of " + set, x.loom(0, set), all);
            Probe.due("1 1", x.rows(1, 1), 0);
        }
    }

    static void p15_otherCallsBetween() {
        HueRash x = Probe.world(THREE, "picture 0 1;picture 2 1;picture 2 1;");
        Probe.told(x, 1, "picture 1 1;picture 2 1;", 1);
        Probe.due("rows", x.rows(0, 0), 6);
        Probe.due("rooms", x.hung(0, 1, 0), 2);
        Probe.due("flags", x.flags(0, -1), 1);
        Probe.due("rows", x.rows(0, 0), 6);
        Probe.due("row", x.row(0, 0, 2), 2);
        Probe.due("flags", x.flags(0, 0), 2);
        Probe.due("rooms", x.hung(0, 0, 0), 1);
        Probe.due("shown", x.hung(0, 1, 1), 3);
        Probe.due("row", x.row(0, 0, 2), 2);
    }

    static void p15_doesNotFit() {
        Probe.due("rows", Probe.world(THREE, "picture 3 1;").rows(0, 0), -1);
        Probe.due("rows", Probe.world(THREE, "picture 2 1;").rows(0, 0), 1);
        Probe.due("rows", Probe.world("", "picture 0 1;").rows(0, 0), -1);
    }

    static void p15_noneSuch() {
        HueRash x = Probe.world("", "");
        for (int other : outside(-1, 1, 2)) {
            Probe.due("palette " + other, x.rows(other, 0), -1);
            Probe.due("gallery " + other, x.rows(0, other), -1);
        }
    }

    static void p16_noRow() {
        HueRash x = Probe.world(THREE, "picture 0 1;picture 1 1;");
        for (int k = -1; k < 3; k++) {
            Probe.due("row " + k, x.row(0, 0, k), -1);
        }
    }

    static void p16_noSuchK() {
        HueRash x = Probe.world(BLACK, "picture 0 1;".repeat(9));
        for (int k = 0; k < 9; k++) {
            Probe.due("row " + k, x.row(0, 0, k), k);
        }
        for (int k : outside(-1, 9, 10)) {
            Probe.due("row " + k, x.row(0, 0, k), -1);
        }
        x = Probe.world(BLACK, "");
        for (int k : outside(-1, 0, 1)) {
            Probe.due("row " + k + " of none", x.row(0, 0, k), -1);
        }
        Probe.due("nine are forgotten", Probe.world(BLACK, "picture 0 1;picture 0 1;").row(0, 0, 2), -1);
    }

    static void p16_noKLeftFromALongerRow() {
        HueRash x = Probe.world(THREE, "picture 0 1;".repeat(5));
        Probe.told(x, 1, "picture 0 1;picture 1 1;", 1);
        Probe.due("long", x.row(0, 0, 4), 4);
        Probe.due("none", x.row(0, 1, 0), -1);
        Probe.retold(x, 1, 1, "picture 0 1;");
        Probe.due("short", x.row(0, 1, 0), 0);
        Probe.due("short", x.row(0, 1, 1), -1);
        Probe.due("long", x.row(0, 0, 4), 4);
    }

    static void p16_theFirstByNumbers() {
        HueRash x = Probe.world(BLACK.repeat(4) + "pair 0 1;pair 0 2;", "picture 0 1;picture 1 1;picture 2 1;picture 3 1;");
        // 0 bears 3 alone: 0 3 1 2
        int[] due = {0, 3, 1, 2};
        for (int k = 0; k < 4; k++) {
            Probe.due("row " + k, x.row(0, 0, k), due[k]);
        }
        Probe.due("rows", x.rows(0, 0), 4);
        // 0 can't be the first: it must stand between 1 and 2
        x = Probe.world(BLACK.repeat(3) + "pair 1 2;", "picture 0 1;picture 1 1;picture 2 1;");
        int[] between = {1, 0, 2};
        for (int k = 0; k < 3; k++) {
            Probe.due("row " + k, x.row(0, 0, k), between[k]);
            Probe.due("thread " + k, x.thread(0, 7, k), between[k]);
        }
    }

    static void p16_asRows() {
        HueRash x = Probe.world(THREE, "picture 3 1;");
        Probe.due("does not fit", x.row(0, 0, 0), -1);
        x = Probe.world(THREE, "picture 2 1;");
        for (int other : outside(-1, 1, 2)) {
            Probe.due("palette " + other, x.row(other, 0, 0), -1);
            Probe.due("gallery " + other, x.row(0, other, 0), -1);
        }
        Probe.due("it fits", x.row(0, 0, 0), 0);
    }

    static void p17_withoutPictures() {
        HueRash x = Probe.world("", "");
        Probe.due("cost", x.repainted(0, 0, 0), 0);
        Probe.due("hue", x.repainted(0, 0, 10), -1);
    }

    static void p17_leftAsItIs() {
        HueRash x = Probe.world("hue 1 1 1;hue 5 5 5;sum 0 5;", "picture 1 9;picture 1 9;");
        Probe.due("cost", x.repainted(0, 0, 0), 0);
        Probe.due("hue", x.repainted(0, 0, 10), 1);
        Probe.due("hue", x.repainted(0, 0, 11), 1);
    }

    static void p17_allOfOneHueAtMost() {
        // all clash: the first one's 9 areas of 27 stay, the others cost 1 * 27 each
        String black = "picture 0 9;" + "picture 1 1;".repeat(8);
        HueRash x = Probe.world("hue 0 0 0;hue 9 9 9;sum 0 54;", black);
        Probe.due("cost", x.repainted(0, 0, 0), 8 * 27);
        for (int k = 0; k < 9; k++) {
            Probe.due("hue " + k, x.repainted(0, 0, 10 + k), 0);
        }
    }

    static void p17_theGreatestCost() {
        HueRash x = Probe.world("hue 0 0 0;hue 9 9 9;sum 0 54;", "picture 0 9;picture 1 9;".repeat(4) + "picture 1 9;");
        Probe.due("cost", x.repainted(0, 0, 0), 4 * 9 * 27);
        Probe.due("hue", x.repainted(0, 0, 10), 1);
    }

    static void p17_theFirstRowOfThatCost() {
        HueRash x = Probe.world("hue 0 0 0;hue 1 0 0;pair 0 1;", "picture 1 1;picture 0 1;");
        Probe.due("cost", x.repainted(0, 0, 0), 1);
        Probe.due("first", x.repainted(0, 0, 10), 0);
        Probe.due("second", x.repainted(0, 0, 11), 0);
        // of two hues of the same parts the first one clashes with the neighbour
        x = Probe.world("hue 5 0 0;hue 5 0 0;hue 0 0 0;pair 0 2;", "picture 2 1;picture 1 1;");
        Probe.due("cost", x.repainted(0, 0, 0), 0);
        Probe.due("first", x.repainted(0, 0, 10), 2);
        Probe.due("second", x.repainted(0, 0, 11), 1);
        // a hue of the same parts costs nothing
        x = Probe.world("hue 1 2 3;hue 1 2 3;", "picture 1 9;");
        Probe.due("cost", x.repainted(0, 0, 0), 0);
        Probe.due("hue", x.repainted(0, 0, 10), 0);
    }

    static void p17_tenHues() {
        // all clash, so all get one hue: 4, in the middle of 0 to 8
        StringBuilder colours = new StringBuilder("sum 0 54;");
        StringBuilder pictures = new StringBuilder();
        for (int h = 0; h < 10; h++) {
            colours.append("hue ").append(h).append(" 0 0;");
            pictures.append(h < 9 ? "picture " + h + " 1;" : "");
        }
        HueRash x = Probe.world(colours.toString(), pictures.toString());
        Probe.due("cost", x.repainted(0, 0, 0), 20);
        for (int k = 0; k < 9; k++) {
            Probe.due("hue " + k, x.repainted(0, 0, 10 + k), 4);
        }
    }

    static void p17_eachPartsDifference() {
        for (int p = 0; p < 3; p++) {
            String other = p == 0 ? "hue 7 5 5;" : p == 1 ? "hue 5 7 5;" : "hue 5 5 7;";
            HueRash x = Probe.world("hue 5 5 5;" + other + "pair 0 1;", "picture 0 4;picture 1 3;");
            Probe.due("cost", x.repainted(0, 0, 0), 6);
            Probe.due("hue", x.repainted(0, 0, 11), 0);
        }
    }

    static void p17_anotherWhat() {
        HueRash x = Probe.world(BLACK, "picture 0 1;".repeat(9));
        for (int what : outside(-1, 1, 2, 9, 19, 20, 100)) {
            Probe.due("what " + what, x.repainted(0, 0, what), -1);
        }
        Probe.due("the first", x.repainted(0, 0, 10), 0);
        Probe.due("the last", x.repainted(0, 0, 18), 0);
        x = Probe.world(BLACK, "picture 0 1;");
        Probe.due("the only one", x.repainted(0, 0, 10), 0);
        Probe.due("no second one", x.repainted(0, 0, 11), -1);
    }

    static void p17_doesNotFit() {
        HueRash x = Probe.world(THREE, "picture 0 1;picture 3 1;");
        Probe.due("cost", x.repainted(0, 0, 0), -1);
        Probe.due("hue", x.repainted(0, 0, 10), -1);
        Probe.due("without hues", Probe.world("", "picture 0 1;").repainted(0, 0, 0), -1);
    }

    static void p17_noneSuch() {
        HueRash x = Probe.world("", "");
        for (int other : outside(-1, 1, 2)) {
            Probe.due("palette " + other, x.repainted(other, 0, 0), -1);
            Probe.due("gallery " + other, x.repainted(0, other, 0), -1);
        }
    }

    // ---- looms, paints, flags ----

    static void p18_theEmptySet() {
        Probe.due("empty", Probe.world(ALL_CLASH).loom(0, 0), 1);
        Probe.due("none that is there", Probe.world(ALL_CLASH).loom(0, ~7), 1);
        Probe.due("without hues", Probe.world("").loom(0, -1), 1);
    }

    static void p18_thoseThatThereAreNotDoNotCount() {
        HueRash x = Probe.world(THREE);
        for (int more : outside(0, 8, 512, 1024, 1 << 30)) {
            Probe.due("0 and 2", x.loom(0, 5 | more & ~7), 2);
            Probe.due("0 and 1", x.loom(0, 3 | more & ~7), 0);
        }
        x = Probe.world(TEN_HUES);
        Probe.due("ten", x.loom(0, 1023), 3628800);
        Probe.due("all bits", x.loom(0, -1), 3628800);
        Probe.due("the tenth", x.loom(0, 512 | 1), 2);
        Probe.due("no eleventh", x.loom(0, 1024 | 1), 1);
    }

    static void p18_noneSuch() {
        HueRash x = Probe.world(THREE);
        for (int other : outside(-1, 1, 2)) {
            Probe.due("palette " + other, x.loom(other, 0), -1);
        }
    }

    static void p19_noOrder() {
        HueRash x = Probe.world(THREE);
        for (int k = -1; k < 3; k++) {
            Probe.due("thread " + k, x.thread(0, 3, k), -1);
        }
    }

    static void p19_noSuchK() {
        HueRash x = Probe.world(TEN_HUES);
        for (int k = 0; k < 10; k++) {
            Probe.due("thread " + k, x.thread(0, -1, k), k);
        }
        for (int k : outside(-1, 10, 11)) {
            Probe.due("thread " + k, x.thread(0, -1, k), -1);
        }
        Probe.due("the last of two", x.thread(0, 0x201, 1), 9);
        Probe.due("no third of two", x.thread(0, 0x201, 2), -1);
        for (int k : outside(-1, 0, 1)) {
            Probe.due("of the empty set " + k, x.thread(0, 0, k), -1);
        }
    }

    static void p19_theFirstOrder() {
        HueRash x = Probe.world(BLACK.repeat(5) + "pair 1 2;pair 1 4;");
        int[] due = {1, 3, 2, 4};
        for (int k = 0; k < 4; k++) {
            Probe.due("thread " + k, x.thread(0, 30, k), due[k]);
        }
        Probe.due("orders", x.loom(0, 30), 4);
    }

    static void p19_asLoom() {
        HueRash x = Probe.world(THREE);
        for (int other : outside(-1, 1, 2)) {
            Probe.due("palette " + other, x.thread(other, 1, 0), -1);
        }
        Probe.due("there", x.thread(0, 1, 0), 0);
    }

    private static void mix(String colours, int hue, int set, int units, int first, int colour) {
        HueRash x = Probe.world(colours);
        int[] due = {units, first, colour};
        for (int what = 0; what < 3; what++) {
            Probe.due("mix " + what + " of " + colours, x.mix(0, hue, set, what), due[what]);
        }
    }

    static void p20_noUnit() {
        mix("hue 1 2 3;hue 4 5 6;", 0, 3, 0, -1, 123);
        mix("hue 1 2 3;hue 9 9 9;", 1, 3, 0, -1, 999);
        mix("hue 0 0 0;hue 9 9 9;", 0, 3, 0, -1, 0);
    }

    static void p20_theEmptySet() {
        mix("hue 1 2 3;hue 4 5 6;sum 0 54;", 0, 0, 0, -1, 123);
    }

    static void p20_thoseThatThereAreNotDoNotCount() {
        mix("hue 1 2 3;hue 4 5 6;sum 0 54;", 0, ~3, 0, -1, 123);
        mix("hue 1 2 3;hue 4 5 6;sum 0 54;", 0, MIN, 0, -1, 123);
        mix("hue 1 2 3;hue 4 5 6;sum 0 54;", 0, ~1, -2, -2, -2);
    }

    static void p20_withNoUnitItIsTheHue() {
        // it bears itself, though a colour of its parts would not
        mix("hue 1 2 3;sum 0 54;", 0, 1, 0, -1, 123);
        // it has its pair
        mix("hue 1 2 3;hue 0 0 0;pair 0 1;", 0, 2, 1, 0, 246);
    }

    static void p20_withAUnitItIsNoHue() {
        // 0 with a unit of 1 has 0's parts again, and no pair any more
        mix("hue 1 2 3;hue 0 0 0;pair 0 1;gap 0 2;", 0, 2, 1, 1, 123);
        // it does not bear itself any more
        mix("hue 1 0 0;hue 0 0 0;pair 0 1;like 0;", 0, 3, 1, 0, 200);
        // 2 blue make 3 with it, and 3 blue make 3 with black
        mix("hue 0 0 1;hue 0 0 0;pair 0 1;like 2;sum 3 3;", 0, 3, 3, 0, 4);
    }

    static void p20_partsBy10Remainder() {
        // 5 and 5 is 0 again
        mix("hue 5 0 0;hue 0 0 0;gap 0 5;", 0, 2, 1, 0, 0);
        // 9 more is 1 less
        mix("hue 0 9 0;hue 0 0 0;gap 1 8;", 0, 2, 2, 0, 70);
        mix("hue 0 0 9;hue 0 0 0;gap 2 1;", 0, 2, 9, 0, 0);
        mix("hue 9 9 9;hue 0 0 0;sum 27 54;", 0, 2, 1, 0, 888);
    }

    static void p20_theFewestUnits() {
        // one unit of 2, though two units of 0 come before it by hues
        mix("hue 1 0 0;hue 0 0 0;hue 2 0 0;gap 1 1;sum 0 2;", 0, 2, 1, 2, 300);
        mix("hue 1 0 0;hue 0 0 0;gap 1 1;sum 0 2;", 0, 2, 2, 0, 300);
    }

    static void p20_theFirstRowOfUnits() {
        // 0 4 and 4 0 are as good: 4 is first when 0 is put last
        mix("hue 1 0 0;hue 0 1 0;hue 0 0 0;gap 1 2;sum 0 1;", 0, 4, 1, 0, 200);
        mix("hue 0 1 0;hue 1 0 0;hue 0 0 0;sum 0 1;gap 1 2;", 0, 4, 1, 1, 110);
        // by one unit of 1 or of 2
        mix("hue 0 0 0;hue 0 0 3;hue 0 3 0;hue 0 0 0;sum 0 2;", 0, 8, 1, 1, 3);
    }

    static void p20_theFirstOfTwoUnits() {
        // two units of 1, as 0 is black; two units of 2 come behind them
        mix("hue 0 0 0;hue 0 1 0;hue 0 0 1;hue 0 0 0;sum 0 1;gap 2 1;cure 2 2;", 0, 8, 2, 1, 20);
        mix("hue 0 0 0;hue 0 0 1;hue 0 1 0;hue 0 0 0;sum 0 1;gap 2 1;", 0, 8, 2, 2, 20);
    }

    static void p20_theMostUnits() {
        mix("hue 1 0 0;hue 0 1 0;hue 0 0 1;hue 0 0 0;sum 0 26;", 0, 8, 26, 0, 999);
        mix("hue 1 0 0;hue 0 1 0;hue 0 0 1;hue 0 0 0;sum 0 27;", 0, 8, -2, -2, -2);
    }

    static void p20_tenHues() {
        mix(BLACK.repeat(9) + "hue 0 0 1;sum 0 0;", 0, 2, 1, 9, 1);
        mix(BLACK.repeat(9) + "hue 0 0 1;sum 0 1;", 0, 2, 2, 9, 2);
        mix(TEN_HUES + "sum 0 0;", 9, 1, -2, -2, -2);
    }

    static void p20_neverBehindAnother() {
        HueRash x = Probe.world("hue 1 0 0;hue 0 0 0;sum 0 9;");
        Probe.told(x, 0, "hue 0 0 0;hue 0 0 0;sum 0 0;", 1);
        for (int turn = 0; turn < 2; turn++) {
            for (int what = 0; what < 3; what++) {
                Probe.due("ten colours", x.mix(0, 0, 2, what), -2);
                Probe.due("one colour", x.mix(1, 0, 2, what), -2);
            }
        }
    }

    static void p20_oneBehindTheOther() {
        HueRash x = Probe.world("hue 5 0 0;hue 0 0 0;hue 0 1 0;gap 0 5;");
        for (int turn = 0; turn < 2; turn++) {
            int[][] due = {{0, 2, 1, 0, 0}, {0, 1, 0, -1, 500}, {1, 1, 1, 0, 500}, {2, 1, 1, 0, 510}, {2, 2, 0, -1, 10}};
            for (int[] d : due) {
                for (int what = 0; what < 3; what++) {
                    Probe.due("mix " + d[0] + " " + d[1] + " " + what, x.mix(0, d[0], d[1], what), d[2 + what]);
                }
            }
        }
    }

    static void p20_never() {
        mix("hue 0 0 0;hue 9 9 9;sum 0 54;", 0, 2, -2, -2, -2);
        mix("hue 1 0 0;hue 0 0 0;sum 0 9;", 0, 2, -2, -2, -2);
        mix("hue 1 0 0;hue 0 0 0;sum 0 8;", 0, 2, 8, 0, 900);
    }

    static void p20_noneSuch() {
        HueRash x = Probe.world(THREE);
        for (int h : outside(-1, 3, 10)) {
            Probe.due("hue " + h, x.mix(0, h, 0, 0), -2);
        }
        for (int p : outside(-1, 1, 2)) {
            Probe.due("palette " + p, x.mix(p, 0, 0, 0), -2);
        }
        Probe.due("the last", x.mix(0, 2, 0, 0), 0);
        Probe.due("without hues", Probe.world("").mix(0, 0, 0, 0), -2);
    }

    static void p20_anotherWhat() {
        HueRash x = Probe.world(THREE);
        for (int what : outside(-1, 3, 4)) {
            Probe.due("what " + what, x.mix(0, 0, 0, what), -2);
            Probe.due("what " + what, x.mix(0, 0, 2, what), -2);
        }
    }

    private static void flags(String colours, int couples, int... allies) {
        HueRash x = Probe.world(colours);
        Probe.due("flags of " + colours, x.flags(0, -1), couples);
        for (int h = 0; h < allies.length; h++) {
            Probe.due("ally of " + h + " of " + colours, x.flags(0, h), allies[h]);
        }
        Probe.due("one more", x.flags(0, allies.length), -2);
    }

    static void p21_withoutHues() {
        flags("", 0);
    }

    static void p21_oneAndTenHues() {
        flags(BLACK, 0, -1);
        flags(TEN_HUES, 5, 1, 0, 3, 2, 5, 4, 7, 6, 9, 8);
    }

    static void p21_withoutAnAlly() {
        flags(ALL_CLASH, 0, -1, -1, -1);
        flags(BLACK.repeat(3), 1, 1, 0, -1);
        // 0 bears none; 1 has 2
        flags(BLACK.repeat(3) + "pair 0 1;pair 0 2;", 1, -1, 2, 1);
    }

    static void p21_ofTheOtherPalette() {
        HueRash x = Probe.world(TEN_HUES);
        Probe.told(x, 0, TEN_HUES + "sum 0 0;", 1);
        for (int turn = 0; turn < 2; turn++) {
            Probe.due("all", x.flags(0, -1), 5);
            for (int h = 0; h < 10; h++) {
                Probe.due("ally of " + h, x.flags(0, h), h % 2 == 0 ? h + 1 : h - 1);
            }
            Probe.due("none", x.flags(1, -1), 0);
            for (int h = 0; h < 10; h++) {
                Probe.due("no ally of " + h, x.flags(1, h), -1);
            }
        }
    }

    static void p21_otherCallsBetween() {
        HueRash x = Probe.world(BLACK.repeat(3), "picture 0 1;picture 1 1;");
        Probe.due("rooms", x.hung(0, 0, 0), 1);
        Probe.due("flags", x.flags(0, -1), 1);
        Probe.due("ally of 0", x.flags(0, 0), 1);
        Probe.due("ally of 2", x.flags(0, 2), -1);
        x = Probe.world(BLACK, "picture 0 1;");
        Probe.due("rooms of one", x.hung(0, 0, 0), 1);
        Probe.due("flags of one", x.flags(0, -1), 0);
        Probe.due("ally of one", x.flags(0, 0), -1);
    }

    static void p21_theLeastByWhichAsManyCanBe() {
        // 0 chooses before 1 does, and both bear 2 and 3
        flags(BLACK.repeat(4) + "pair 0 1;pair 2 3;", 2, 2, 3, 0, 1);
        // 0 bears 1 to 3, 1 bears 0 and 2, 3 bears 0 alone
        flags(BLACK.repeat(4) + "pair 1 3;pair 2 3;", 2, 3, 2, 1, 0);
    }

    static void p21_noneSuch() {
        HueRash x = Probe.world(THREE);
        for (int h : outside(-2, 3, 10)) {
            Probe.due("hue " + h, x.flags(0, h), -2);
        }
        for (int p : outside(-1, 1, 2)) {
            Probe.due("palette " + p, x.flags(p, -1), -2);
            Probe.due("palette " + p, x.flags(p, 0), -2);
        }
    }

    // ---- neighbours ----

    static void p22_noneSuch() {
        HueRash x = Probe.world(THREE);
        for (int couple : outside(-1, -10, 3, 9, 13, 23, 30, 32, 33, 99, 100, 122, 1000)) {
            Probe.due("couple " + couple, x.gain(0, 0, couple), -1000);
            Probe.due("couple " + couple, x.gain(0, 1, couple), -1000);
        }
        for (int who : outside(-1, 2, 3)) {
            Probe.due("who " + who, x.gain(0, who, 0), -1000);
        }
        for (int p : outside(-1, 1, 2)) {
            Probe.due("palette " + p, x.gain(p, 0, 0), -1000);
        }
        Probe.due("the first", x.gain(0, 0, 0), 0);
        Probe.due("the last", x.gain(0, 1, 22), 0);
        Probe.due("without hues", Probe.world("").gain(0, 0, 0), -1000);
        x = Probe.world(TEN_HUES);
        Probe.due("99", x.gain(0, 1, 99), 0);
        Probe.due("100", x.gain(0, 1, 100), -1000);
        Probe.due("109", x.gain(0, 0, 109), -1000);
    }

    static void p22_leastAndMost() {
        HueRash x = Probe.world(BLACK.repeat(2) + "sum 0 0;sum 0 1;sum 0 2;sum 0 3;pair 0 1;pair 1 0;likes 0 0 9;likes 1 0 9;");
        Probe.due("most", x.gain(0, 0, 0), 9);
        Probe.due("least", x.gain(0, 0, 10), -18);
        Probe.due("mixed", x.gain(0, 0, 1), -9);
        Probe.due("mixed", x.gain(0, 1, 10), -9);
        Probe.due("least", x.gain(0, 1, 1), -18);
    }

    static void p23_howMany() {
        Probe.due("without hues", Probe.world("").rest(0, -1), 0);
        Probe.due("one hue", Probe.world(BLACK).rest(0, -1), 1);
        Probe.due("ten hues", Probe.world(TEN_HUES).rest(0, -1), 100);
        Probe.due("all clash", Probe.world(ALL_CLASH).rest(0, -1), 3);
    }

    static void p23_noSuchK() {
        HueRash x = Probe.world(TEN_HUES);
        for (int k = 0; k < 100; k++) {
            Probe.due("rest " + k, x.rest(0, k), k);
        }
        for (int k : outside(-2, 100, 101)) {
            Probe.due("rest " + k, x.rest(0, k), -1);
        }
        Probe.due("without hues", Probe.world("").rest(0, 0), -1);
    }

    static void p23_noneSuch() {
        HueRash x = Probe.world(THREE);
        for (int p : outside(-1, 1, 2)) {
            Probe.due("palette " + p, x.rest(p, -1), -1);
            Probe.due("palette " + p, x.rest(p, 0), -1);
        }
    }

    static void p23_toGainNothingIsNoGain() {
        // 0 1 and 1 0 clash: both would gain; likes of 3 make up for a clash, and then it is as good
        HueRash x = Probe.world(BLACK.repeat(2) + "pair 0 1;likes 0 1 3;");
        // 00: 0 gains nothing by 1 (3 less 3); 01: both would; 10: 1 would; 11: fine
        Probe.due("how many", x.rest(0, -1), 2);
        Probe.due("first", x.rest(0, 0), 0);
        Probe.due("last", x.rest(0, 1), 11);
        x = Probe.world(BLACK.repeat(2) + "pair 0 1;likes 0 1 4;");
        Probe.due("how many", x.rest(0, -1), 1);
        Probe.due("only", x.rest(0, 0), 11);
    }

    static void p23_aChangeToTheFirstOrToTheLastHue() {
        HueRash x = Probe.world(BLACK.repeat(2) + "likes 0 0 5;");
        Probe.due("0's first", x.rest(0, -1), 2);
        Probe.due("0's first", x.rest(0, 0), 0);
        Probe.due("0's first", x.rest(0, 1), 1);
        x = Probe.world(TEN_HUES + "likes 1 9 5;");
        Probe.due("1's last", x.rest(0, -1), 10);
        Probe.due("1's last", x.rest(0, 0), 9);
        Probe.due("1's last", x.rest(0, 9), 99);
        x = Probe.world(TEN_HUES + "likes 0 9 1;likes 1 0 1;");
        Probe.due("both", x.rest(0, -1), 1);
        Probe.due("both", x.rest(0, 0), 90);
    }

    static void p24_alone() {
        HueRash x = Probe.world(BLACK.repeat(3) + "pair 0 1;");
        Probe.due("how many", x.spread(0, 2, false), 1);
        Probe.due("rounds", x.spread(0, 2, true), 0);
        Probe.due("how many", x.spread(0, 1, false), 2);
        Probe.due("rounds", x.spread(0, 1, true), 1);
    }

    static void p24_allTenInNineRounds() {
        // in a row by parts: 0, 9, 1, 8, .. have gaps; six rules make a row of ten by sums of neighbours
        HueRash x = Probe.world("hue 0 0 0;hue 9 0 0;hue 1 0 0;hue 8 0 0;hue 2 0 0;hue 7 0 0;hue 3 0 0;hue 6 0 0;"
            + "hue 4 0 0;hue 5 0 0;sum 9 10;cure 1 1;");
        // 0-9 9-1 1-8 8-2 2-7 7-3 3-6 6-4 4-5
        Probe.due("how many", x.spread(0, 0, false), 10);
        Probe.due("rounds", x.spread(0, 0, true), 9);
        Probe.due("from the end", x.spread(0, 9, true), 9);
        Probe.due("from the middle", x.spread(0, 4, true), 5);
    }

    static void p24_noneSuch() {
        HueRash x = Probe.world(THREE);
        for (int h : outside(-1, 3, 10)) {
            Probe.due("hue " + h, x.spread(0, h, false), -1);
            Probe.due("hue " + h, x.spread(0, h, true), -1);
        }
        for (int p : outside(-1, 1, 2)) {
            Probe.due("palette " + p, x.spread(p, 0, false), -1);
            Probe.due("palette " + p, x.spread(p, 0, true), -1);
        }
        Probe.due("without hues", Probe.world("").spread(0, 0, false), -1);
        Probe.due("the last", x.spread(0, 2, false), 3);
    }

    // ---- sights ----

    static void p25_howMany() {
        HueRash x = Probe.world(null, null, null, "calm 0 1;");
        Probe.told(x, 3, "", 1);
        Probe.due("one", x.sneeze(0, -1, 0), 1);
        Probe.due("none", x.sneeze(1, -1, 0), 0);
        for (int what : outside(-1, 1, 2, 3)) {
            Probe.due("how many, what " + what, x.sneeze(0, -1, what), -2);
        }
    }

    static void p25_noneSuch() {
        HueRash x = Probe.world(null, null, null, "calm 0 1;".repeat(11) + "sneezed 9 8;");
        for (int k : outside(-2, 12, 13)) {
            Probe.due("sneeze " + k, x.sneeze(0, k, 0), -2);
        }
        Probe.due("the first", x.sneeze(0, 0, 0), 0);
        Probe.due("the last", x.sneeze(0, 11, 0), 1);
        Probe.due("the last", x.sneeze(0, 11, 1), 9);
        Probe.due("the last", x.sneeze(0, 11, 2), 8);
        for (int s : outside(-1, 1, 2)) {
            Probe.due("sight " + s, x.sneeze(s, 0, 0), -2);
            Probe.due("sight " + s, x.sneeze(s, -1, 0), -2);
        }
        Probe.told(x, 3, "calm 1 0;calm 2 0;", 1);
        Probe.due("one behind the last", x.sneeze(1, 2, 0), -2);
        Probe.due("the last", x.sneeze(1, 1, 1), 2);
    }

    static void p25_anotherWhat() {
        HueRash x = Probe.world(null, null, null, "calm 0 1;");
        for (int what : outside(-1, 3, 4)) {
            Probe.due("what " + what, x.sneeze(0, 0, what), -2);
        }
    }

    private static HueRash sight(String colours, String sight) {
        return Probe.world(colours, null, null, sight);
    }

    private static void candidate(HueRash x, int k, int sort, int first, int second) {
        Probe.due("sort of " + k, x.fits(0, 0, k, 0), sort);
        Probe.due("first of " + k, x.fits(0, 0, k, 1), first);
        Probe.due("second of " + k, x.fits(0, 0, k, 2), second);
    }

    static void p26_allCandidatesInTheirOrder() {
        HueRash x = sight("", "");
        Probe.due("all", x.fits(0, 0, -1, 0), 1570);
        candidate(x, 0, 0, 0, 0);
        candidate(x, 1, 0, 0, 1);
        candidate(x, 54, 0, 0, 54);
        candidate(x, 55, 0, 1, 1);
        candidate(x, 108, 0, 1, 54);
        candidate(x, 109, 0, 2, 2);
        candidate(x, 1537, 0, 53, 53);
        candidate(x, 1538, 0, 53, 54);
        candidate(x, 1539, 0, 54, 54);
        candidate(x, 1540, 1, 0, 1);
        candidate(x, 1548, 1, 0, 9);
        candidate(x, 1549, 1, 1, 1);
        candidate(x, 1557, 1, 1, 9);
        candidate(x, 1558, 1, 2, 1);
        candidate(x, 1566, 1, 2, 9);
        candidate(x, 1567, 2, 0, -1);
        candidate(x, 1568, 2, 1, -1);
        candidate(x, 1569, 2, 2, -1);
        candidate(x, 1570, -2, -2, -2);
    }

    static void p26_noSuchK() {
        HueRash x = sight("", "");
        for (int k : outside(-2, 1570, 1571)) {
            for (int what = 0; what < 3; what++) {
                Probe.due("fits " + k, x.fits(0, 0, k, what), -2);
            }
        }
        x = sight("hue 0 0 0;hue 0 0 0;", "sneezed 0 1;");
        // 55 sums from 0 hold 0, no gap and no like
        Probe.due("how many", x.fits(0, 0, -1, 0), 55);
        Probe.due("the last", x.fits(0, 0, 54, 2), 54);
        Probe.due("one more", x.fits(0, 0, 55, 0), -2);
    }

    static void p26_noneFits() {
        HueRash x = sight("hue 0 0 0;hue 0 0 0;", "sneezed 0 1;calm 1 0;");
        Probe.due("how many", x.fits(0, 0, -1, 0), 0);
        Probe.due("the first", x.fits(0, 0, 0, 0), -2);
        Probe.due("tells", x.fits(0, 0, -1, 1), 1);
    }

    static void p26_tellsWithFewerThanTwoHues() {
        Probe.due("none", sight("", "").fits(0, 0, -1, 1), -1);
        Probe.due("one", sight(BLACK, "").fits(0, 0, -1, 1), -1);
        Probe.due("two", sight(BLACK + BLACK, "").fits(0, 0, -1, 1), 1);
    }

    static void p26_tellsOfSeveralTheLeast() {
        Probe.due("all alike", sight(TEN_HUES, "").fits(0, 0, -1, 1), 1);
        // 8 and 9 together 27: 28 * 28 sums, a gap and a like hold, the nearest to half of 1570
        String colours = BLACK.repeat(8) + "hue 9 4 0;hue 9 5 0;";
        Probe.due("the last couple", sight(colours, "").fits(0, 0, -1, 1), 89);
    }

    static void p26_tellsByTheGreaterNumber() {
        // sums that may be: lo 0, hi from 0; 0 1 is told. 0 2 (9) holds by 46 of 55, and 9 gaps do not fit
        HueRash x = sight("hue 0 0 0;hue 0 0 0;hue 3 3 3;hue 9 9 9;", "sneezed 0 1;");
        Probe.due("how many", x.fits(0, 0, -1, 0), 55);
        // 0 3: 27 holds by 28, 2 3: 36 by 19, 0 2: 9 by 46: the greater ones are 28, 36, 46
        Probe.due("tells", x.fits(0, 0, -1, 1), 3);
        // another sight that was asked for before changes nothing
        x = sight("hue 0 0 0;hue 0 0 0;hue 3 3 3;hue 9 9 9;", "");
        Probe.told(x, 3, "sneezed 0 1;", 1);
        Probe.due("all", x.fits(0, 0, -1, 0), 1570);
        Probe.due("tells", x.fits(0, 1, -1, 1), 3);
    }

    static void p26_tellsByEachPart() {
        String[] hues = {"hue 9 0 0;hue 4 0 0;", "hue 0 9 0;hue 0 4 0;", "hue 0 0 9;hue 0 0 4;"};
        for (String two : hues) {
            // all fit: 0 1 holds by 55 sums; 0 2 (9) by 460 sums and 9 gaps; 0 3 (4) by 255 and 4; 2 3 (13) by 588 and 5
            HueRash x = sight(BLACK + BLACK + two, "");
            Probe.due("tells of " + two, x.fits(0, 0, -1, 1), 23);
        }
    }

    static void p26_tellsByGaps() {
        // 0 1 has gaps of 9 in yellow and blue, and 9 parts each; 0 4 has the same sum, 0 3 gaps of 3
        HueRash x = sight("hue 0 0 9;hue 0 9 0;hue 0 5 4;hue 0 3 6;hue 9 0 0;", "sneezed 0 1;calm 0 3;calm 0 4;");
        // no sum; blue gaps are those of 0 4, too: yellow 4 to 9
        Probe.due("how many", x.fits(0, 0, -1, 0), 6);
        for (int k = 0; k < 6; k++) {
            candidate(x, k, 1, 1, 4 + k);
        }
        // 0 2 holds by 4 and 5 (greater number 4), 1 2 by 4 (5), 1 3 by 4 to 6 (3)
        Probe.due("tells", x.fits(0, 0, -1, 1), 13);
    }

    static void p26_tellsByLikes() {
        // all have 3 parts: no sum, as 2 3 was calm; 0 1 has no gap, and likes of all parts
        HueRash x = sight("hue 1 1 1;hue 1 1 1;hue 0 2 1;hue 1 2 0;", "sneezed 0 1;calm 2 3;");
        // a like of yellow holds for 2 3, too: red and blue are left
        Probe.due("how many", x.fits(0, 0, -1, 0), 2);
        candidate(x, 0, 2, 0, -1);
        candidate(x, 1, 2, 2, -1);
        // 0 1 holds by both, 0 2 by blue alone
        Probe.due("tells", x.fits(0, 0, -1, 1), 2);
    }

    static void p26_tellsByTheOnesThatHoldNot() {
        // all have 9 parts: 19 * 37 sums of 18, and the gaps of red and of yellow; 0 1 holds by all of them
        HueRash x = sight("hue 9 0 0;hue 0 9 0;hue 0 0 9;hue 0 0 9;", "sneezed 0 1;");
        Probe.due("how many", x.fits(0, 0, -1, 0), 19 * 37 + 18);
        // 0 2 to 1 3 hold by 703 sums and 9 gaps, 2 3 by the sums alone
        Probe.due("tells", x.fits(0, 0, -1, 1), 23);
    }

    static void p26_tellsByTheSumsLast() {
        // 0 1 (2) sneezed, 1 2 (5) and 0 4 (4) were calm: lo 0 to 2, hi 2 or 3; no gap and no like
        HueRash x = sight("hue 0 0 0;hue 1 1 0;hue 1 1 1;hue 0 0 0;hue 1 1 2;", "sneezed 0 1;calm 1 2;calm 0 4;");
        int many = x.fits(0, 0, -1, 0);
        Probe.due("sums", many, 6);
        Probe.due("first", x.fits(0, 0, 0, 2), 2);
        Probe.due("last", x.fits(0, 0, 5, 2), 3);
        // 0 2 (3) holds by hi 3: three and three; 0 3 (0) by lo 0: two and four
        Probe.due("tells", x.fits(0, 0, -1, 1), 2);
    }

    static void p26_eachOfTwoPalettesAndSights() {
        HueRash x = sight("hue 0 0 0;hue 0 0 0;", "");
        Probe.told(x, 0, "hue 9 9 9;hue 9 9 9;hue 3 0 0;", 1);
        Probe.told(x, 3, "sneezed 0 1;", 1);
        for (int turn = 0; turn < 2; turn++) {
            Probe.due("0 1", x.fits(0, 1, -1, 0), 55);
            Probe.due("1 0", x.fits(1, 0, -1, 0), 1570);
            // 54: 55 sums, three likes
            Probe.due("1 1", x.fits(1, 1, -1, 0), 58);
            Probe.due("0 0", x.fits(0, 0, -1, 0), 1570);
            Probe.due("last of 1 1", x.fits(1, 1, 57, 0), 2);
            Probe.due("last of 0 1", x.fits(0, 1, 54, 2), 54);
            Probe.due("first of 1 1", x.fits(1, 1, 0, 2), 54);
            Probe.due("tells 0 0", x.fits(0, 0, -1, 1), 1);
            Probe.due("tells 0 1", x.fits(0, 1, -1, 1), 1);
            // 0 2 (30) and 1 2: 31 * 25 sums, 6 and 9 and 9 gaps: 799
            Probe.due("tells 1 0", x.fits(1, 0, -1, 1), 2);
            // of those of 0 1: 0 2 holds by 31
            Probe.due("tells 1 1", x.fits(1, 1, -1, 1), 2);
        }
    }

    static void p26_curesAndRulesOfThePaletteDoNotCount() {
        HueRash x = sight("hue 1 0 0;hue 1 0 0;pair 0 1;cure 0 1;", "sneezed 0 1;");
        // sums of 2: 3 * 53; like of red
        Probe.due("how many", x.fits(0, 0, -1, 0), 159 + 1);
        candidate(x, 159, 2, 0, -1);
    }

    static void p26_tellsWhoeverClashes() {
        // as told by each part: 2 3 is the one, whether all clash, or none, or 0 1 alone
        String hues = BLACK + BLACK + "hue 9 0 0;hue 4 0 0;";
        for (String rules : new String[] {"", "sum 0 54;", "sum 0 54;cure 0 1;", "pair 0 1;", "sum 0 54;cure 0 10;"}) {
            Probe.due("tells by " + rules, sight(hues + rules, "").fits(0, 0, -1, 1), 23);
            Probe.due("how many by " + rules, sight(hues + rules, "").fits(0, 0, -1, 0), 1570);
        }
    }

    static void p26_edgesOfCandidates() {
        // together 10, gaps 2 of yellow, like of blue
        HueRash x = sight("hue 0 1 3;hue 0 3 3;hue 0 0 0;", "sneezed 0 1;calm 0 2;");
        // sums: lo 5 to 10, hi from 10: 6 * 45; gap of yellow 2 (1 holds for 0 2 too); like of blue
        Probe.due("how many", x.fits(0, 0, -1, 0), 270 + 1 + 1);
        candidate(x, 0, 0, 5, 10);
        candidate(x, 269, 0, 10, 54);
        candidate(x, 270, 1, 1, 2);
        candidate(x, 271, 2, 2, -1);
    }

    static void p26_aHueThatIsNotThere() {
        for (int hues = 1; hues < 10; hues++) {
            for (String sight : new String[] {"calm 0 %;", "calm % 0;", "sneezed 0 %;", "calm 0 1;sneezed % 0;"}) {
                if (hues == 1 && sight.startsWith("calm 0 1")) {
                    continue;
                }
                HueRash x = sight(BLACK.repeat(hues), sight.replace("%", "" + hues));
                for (int k = -1; k < 2; k++) {
                    Probe.due("too few", x.fits(0, 0, k, 0), -2);
                }
                Probe.due("too few", x.fits(0, 0, -1, 1), -2);
                Probe.retold(x, 0, 0, BLACK.repeat(hues + 1));
                Probe.due("as many as needed", x.fits(0, 0, -1, 0) >= 0, true);
            }
        }
    }

    static void p26_noneSuch() {
        HueRash x = sight("", "");
        for (int other : outside(-1, 1, 2)) {
            for (int what = 0; what < 2; what++) {
                Probe.due("palette " + other, x.fits(other, 0, -1, what), -2);
                Probe.due("sight " + other, x.fits(0, other, -1, what), -2);
                Probe.due("palette " + other, x.fits(other, 0, 0, what), -2);
                Probe.due("sight " + other, x.fits(0, other, 0, what), -2);
            }
        }
    }

    static void p26_anotherWhat() {
        HueRash x = sight(THREE, "");
        for (int what : outside(-1, 2, 3)) {
            Probe.due("k none, what " + what, x.fits(0, 0, -1, what), -2);
        }
        for (int what : outside(-1, 3, 4)) {
            Probe.due("what " + what, x.fits(0, 0, 0, what), -2);
        }
    }

    // ---- dinners ----

    private static HueRash table(String colours, String dinner) {
        return Probe.world(colours, null, null, null, dinner);
    }

    static void p27_noneSuch() {
        HueRash x = table(null, "guest 9;" + "guest 0;".repeat(6) + "guest 0 1 2 3 4 5 6 7 8 9;");
        for (int k : outside(-2, 8, 9)) {
            Probe.due("guest " + k, x.guest(0, k), -2);
        }
        Probe.due("how many", x.guest(0, -1), 8);
        Probe.due("the first", x.guest(0, 0), 512);
        Probe.due("the last", x.guest(0, 7), 1023);
        for (int d : outside(-1, 1, 2)) {
            Probe.due("dinner " + d, x.guest(d, -1), -2);
            Probe.due("dinner " + d, x.guest(d, 0), -2);
        }
    }

    static void p27_withoutGuests() {
        HueRash x = table(null, "");
        Probe.due("how many", x.guest(0, -1), 0);
        Probe.due("the first", x.guest(0, 0), -2);
    }

    private static void dinner(String colours, String dinner, int ways, int few, int... worn) {
        HueRash x = table(colours, dinner);
        Probe.due("ways of " + dinner, x.ways(0, 0), ways);
        Probe.due("few of " + dinner, x.dinner(0, 0, 0), few);
        for (int k = 0; k < worn.length; k++) {
            Probe.due("guest " + k + " of " + dinner, x.dinner(0, 0, 10 + k), worn[k]);
        }
        Probe.due("one guest more of " + dinner, x.dinner(0, 0, 10 + worn.length), -1);
    }

    static void p28_withoutGuests() {
        dinner(THREE, "", 1, 0);
        dinner("", "", 1, 0);
    }

    static void p28_oneGuestHasNoNeighbour() {
        dinner(ALL_CLASH, "guest 0;", 1, 1, 0);
        dinner(ALL_CLASH, "guest 2 1 0;", 3, 1, 0);
    }

    static void p28_twoGuestsAreNeighbours() {
        dinner(THREE, "guest 0;guest 1;", 0, -1);
        dinner(THREE, "guest 0;guest 2;", 1, 2, 0, 2);
        dinner(ALL_CLASH, "guest 0 1;guest 1 2;", 1, 1, 1, 1);
    }

    static void p28_theLastAndTheFirst() {
        dinner(THREE, "guest 0;guest 2;guest 0;", 1, 2, 0, 2, 0);
        dinner(BLACK.repeat(3) + "pair 0 1;", "guest 0;guest 2;guest 1;", 0, -1);
        dinner(BLACK.repeat(3) + "pair 0 1;", "guest 0;guest 2;guest 2;guest 1;", 0, -1);
        dinner(BLACK.repeat(3) + "pair 0 1;", "guest 0;guest 2;guest 1;guest 2;", 1, 3, 0, 2, 1, 2);
    }

    static void p28_eightGuestsOfTenHues() {
        dinner(TEN_HUES, "guest 0 1 2 3 4 5 6 7 8 9;".repeat(8), 100000000, 1, 0, 0, 0, 0, 0, 0, 0, 0);
        // alike all, or none
        dinner(TEN_HUES + "sum 0 0;", "guest 0 1 2 3 4 5 6 7 8 9;".repeat(8), 10, 1, 0, 0, 0, 0, 0, 0, 0, 0);
    }

    static void p28_aHueThatIsNotThere() {
        for (int hues = 1; hues < 10; hues++) {
            HueRash x = table(BLACK.repeat(hues), "guest 0 " + hues + ";guest 0;");
            Probe.due("too few", x.ways(0, 0), -1);
            Probe.retold(x, 0, 0, BLACK.repeat(hues + 1));
            Probe.due("as many as needed", x.ways(0, 0), 2);
        }
        Probe.due("without hues", table("", "guest 0;").ways(0, 0), -1);
    }

    static void p28_noneSuch() {
        HueRash x = table("", "");
        for (int other : outside(-1, 1, 2)) {
            Probe.due("palette " + other, x.ways(other, 0), -1);
            Probe.due("dinner " + other, x.ways(0, other), -1);
        }
    }

    static void p29_noWay() {
        HueRash x = table(THREE, "guest 0;guest 1;");
        for (int what : new int[] {0, 10, 11, 12}) {
            Probe.due("what " + what, x.dinner(0, 0, what), -1);
        }
    }

    static void p29_anotherWhat() {
        HueRash x = table(BLACK, "guest 0;".repeat(8));
        for (int what : outside(-1, 1, 2, 9, 18, 19, 20)) {
            Probe.due("what " + what, x.dinner(0, 0, what), -1);
        }
        Probe.due("few", x.dinner(0, 0, 0), 1);
        Probe.due("the first", x.dinner(0, 0, 10), 0);
        Probe.due("the last", x.dinner(0, 0, 17), 0);
        x = table(BLACK, "guest 0;guest 0;");
        Probe.due("the last of two", x.dinner(0, 0, 11), 0);
        Probe.due("no third", x.dinner(0, 0, 12), -1);
        Probe.due("nobody", table(BLACK, "").dinner(0, 0, 10), -1);
    }

    static void p29_asWays() {
        HueRash x = table(THREE, "guest 3;");
        Probe.due("a hue that is not there", x.dinner(0, 0, 0), -1);
        Probe.due("a hue that is not there", x.dinner(0, 0, 10), -1);
        x = table("", "");
        for (int other : outside(-1, 1, 2)) {
            Probe.due("palette " + other, x.dinner(other, 0, 0), -1);
            Probe.due("dinner " + other, x.dinner(0, other, 0), -1);
        }
        Probe.due("all are there", x.dinner(0, 0, 0), 0);
    }

    static void p29_theFirstWayByNumbers() {
        dinner(THREE, "guest 1 0;guest 2 1;guest 0 2;", 2, 2, 0, 2, 0);
        dinner(BLACK.repeat(4) + "pair 0 1;", "guest 3 0;guest 2 1;guest 3 1;", 5, 2, 0, 2, 3);
    }

    static void p29_fewInAnyWay() {
        // the first way has three hues, the last one only one
        dinner(BLACK.repeat(4), "guest 0 3;guest 1 3;guest 2 3;", 8, 1, 0, 1, 2);
        dinner(TEN_HUES, "guest 0;guest 1;guest 2;guest 3;guest 4;guest 5;guest 6;guest 9;", 1, 8, 0, 1, 2, 3, 4, 5, 6, 9);
        dinner(BLACK.repeat(4), "guest 0 1;guest 1 2;guest 2 3;", 8, 2, 0, 1, 2);
    }

    static void p29_fewOnlyOfWays() {
        // 0 and 1 alone would do, if they did not clash
        dinner(BLACK.repeat(4) + "pair 0 1;", "guest 0;guest 1 2;guest 1 3;", 1, 3, 0, 2, 3);
        dinner(BLACK.repeat(4) + "pair 0 1;", "guest 1 2;guest 0;guest 1 3;guest 1;", 1, 4, 2, 0, 3, 1);
        // the last and the first alone clash
        dinner(BLACK.repeat(5) + "pair 0 1;", "guest 0;guest 2;guest 2;guest 1 3;", 1, 3, 0, 2, 2, 3);
        // two hues for all would be there, but each of them clashes somewhere
        dinner(BLACK.repeat(5) + "pair 0 1;pair 2 3;", "guest 0 2;guest 1 3;guest 0 2;guest 1 3 4;", 4, 2, 0, 3, 0, 3);
        dinner(BLACK.repeat(5) + "pair 0 1;pair 2 3;pair 0 3;", "guest 0 2;guest 1 3;guest 0 2 4;guest 1 3 4;", 4, 2,
            2, 1, 2, 1);
    }

    static void p29_fewRoundTheTable() {
        // who wears 2 at first must not wear 3 for the last: 4 hues would do then; ways are 3 4 2 0 5 and 3 4 2 1 5
        dinner(BLACK.repeat(6) + "pair 0 4;pair 1 3;pair 1 4;pair 2 5;pair 4 5;",
            "guest 2 3;guest 1 4;guest 2 5;guest 0 1;guest 4 5;", 2, 5, 3, 4, 2, 0, 5);
    }

    static void p29_fewWithTheLastHue() {
        dinner(TEN_HUES, "guest 0 9;guest 1 9;guest 2 9;guest 3 9;guest 4 9;guest 5 9;guest 6 9;guest 7 9;", 256, 1,
            0, 1, 2, 3, 4, 5, 6, 7);
        dinner(TEN_HUES + "pair 9 0;", "guest 9;guest 0 8;guest 0 8;", 1, 2, 9, 8, 8);
    }

    static void p30_eveningsAre0To40() {
        HueRash x = table(BLACK, "guest 0;");
        Probe.due("none", x.drawn(0, 0, 5, 0, 0), 0);
        Probe.due("none", x.drawn(0, 0, 5, 0, 1), 0);
        Probe.due("one", x.drawn(0, 0, 5, 1, 0), 1);
        Probe.due("forty", x.drawn(0, 0, 5, 40, 0), 40);
        for (int n : outside(-1, 41, 42)) {
            Probe.due("evenings " + n, x.drawn(0, 0, 5, n, 0), -1);
            Probe.due("evenings " + n, x.drawn(0, 0, 5, n, 1), -1);
        }
    }

    static void p30_anotherWhat() {
        HueRash x = table(BLACK, "guest 0;");
        for (int what : outside(-1, 2, 3, 10)) {
            Probe.due("what " + what, x.drawn(0, 0, 5, 1, what), -1);
        }
    }

    static void p30_asWays() {
        Probe.due("a hue that is not there", table(THREE, "guest 3;").drawn(0, 0, 5, 1, 0), -1);
        Probe.due("the last hue", table(THREE, "guest 2;").drawn(0, 0, 5, 1, 0), 1);
        HueRash x = table("", "");
        for (int other : outside(-1, 1, 2)) {
            Probe.due("palette " + other, x.drawn(other, 0, 5, 1, 0), -1);
            Probe.due("dinner " + other, x.drawn(0, other, 5, 1, 0), -1);
        }
    }

    static void p30_withoutGuests() {
        HueRash x = table("", "");
        Probe.due("all are calm", x.drawn(0, 0, 5, 7, 0), 7);
        Probe.due("strengths", x.drawn(0, 0, 5, 7, 1), 0);
    }

    static void p30_noWayAtAll() {
        HueRash x = table(THREE, "guest 1;guest 2;");
        Probe.due("ways", x.ways(0, 0), 0);
        Probe.due("never calm", x.drawn(0, 0, 5, 40, 0), 0);
        Probe.due("two are neighbours once", x.drawn(0, 0, 5, 40, 1), 80);
    }

    static void p30_oneGuestHasNoNeighbour() {
        HueRash x = table(ALL_CLASH, "guest 0 1 2;");
        Probe.due("calm", x.drawn(0, 0, 5, 40, 0), 40);
        Probe.due("strengths", x.drawn(0, 0, 5, 40, 1), 0);
    }

    static void p30_theLastAndTheFirst() {
        HueRash x = table(BLACK.repeat(3) + "pair 0 1;pair 0 1;", "guest 0;guest 2;guest 1;");
        Probe.due("calm", x.drawn(0, 0, 5, 3, 0), 0);
        Probe.due("strengths", x.drawn(0, 0, 5, 3, 1), 6);
        x = table(BLACK.repeat(3) + "pair 0 1;", "guest 0;guest 1;guest 0;guest 1;guest 0;guest 1;guest 0;guest 1;");
        Probe.due("eight", x.drawn(0, 0, 5, 40, 1), 320);
    }

    /** What the first guest draws of so many hues on the first evening: the second one, of hue 9, clashes with one. */
    private static void draws(int seed, int hues, int due) {
        for (int h = 0; h < hues; h++) {
            StringBuilder first = new StringBuilder("guest");
            for (int k = hues - 1; k >= 0; k--) {
                first.append(' ').append(k);
            }
            HueRash x = table(TEN_HUES + "pair 9 " + h + ";", first + ";guest 9;");
            Probe.due("seed " + seed + " of " + hues + " hue " + h, x.drawn(0, 0, seed, 1, 1), h == due ? 1 : 0);
        }
    }

    static void p30_shiftedWithoutSign() {
        // 0: 12345 >>> 16 is 0
        draws(0, 9, 0);
        // 1: 1103527590 >>> 16 is 16838, of 9 the remainder is 8
        draws(1, 9, 8);
        // 2: 2207042835 (above 2^31) >>> 16 is 33676, of 9 the remainder is 7
        draws(2, 9, 7);
    }

    static void p30_of32Bits() {
        // -1: 12345 - 1103515245 + 2^32 is 3191464396; >>> 16 is 48697, of 9 the remainder is 7
        draws(-1, 9, 7);
        // 4: 4414061 * 1000 and so on: 4414073325 - 2^32 is 119106029; >>> 16 is 1817, of 9 the remainder is 8
        draws(4, 9, 8);
        // 2^31 is left by an odd factor: 2147483648 + 12345; >>> 16 is 32768, of 9 the remainder is 8
        draws(MIN, 9, 8);
        // 2^31 - 1: 2147483648 - 1103515245 + 12345 is 1043980748; >>> 16 is 15929, of 9 the remainder is 8
        draws(MAX, 9, 8);
    }

    static void p30_eachGuestDrawsAnew() {
        // seed 1: x is 1103527590 (16838), then 2524885223 (38526), then 662824084 (10113), 3295386429 (50283)
        HueRash x = table(BLACK.repeat(4) + "pair 0 3;", "guest 1 0;guest 2 3;");
        // evening 1: the first of 0 1 (even), the first of 2 3 (even): 0 2; evening 2: 1 3: both are calm
        Probe.due("two", x.drawn(0, 0, 1, 2, 0), 2);
        x = table(BLACK.repeat(4) + "pair 0 2;", "guest 1 0;guest 2 3;");
        Probe.due("first evening", x.drawn(0, 0, 1, 1, 0), 0);
        Probe.due("both", x.drawn(0, 0, 1, 2, 0), 1);
        x = table(BLACK.repeat(4) + "pair 1 3;", "guest 1 0;guest 2 3;");
        Probe.due("first evening", x.drawn(0, 0, 1, 1, 0), 1);
        Probe.due("both", x.drawn(0, 0, 1, 2, 0), 1);
    }

    static void p30_aGuestOfOneHueDrawsToo() {
        // seed 1: 16838 for the one hue, 38526 for the two: even
        HueRash x = table(BLACK.repeat(3) + "pair 0 1;", "guest 0;guest 1 2;");
        Probe.due("first evening", x.drawn(0, 0, 1, 1, 1), 1);
        // 10113, then 50283: odd
        Probe.due("second evening", x.drawn(0, 0, 1, 2, 1), 1);
        Probe.due("calm", x.drawn(0, 0, 1, 2, 0), 1);
    }

    // ---- two of each ----

    private static final String[] PALETTES = {THREE + "likes 0 1 5;",
        "hue 9 0 0;hue 0 9 0;hue 4 4 4;hue 1 1 1;sum 9 12;gap 0 5;cure 2 8;likes 1 0 7;likes 0 2 9;"};
    private static final String[] GALLERIES = {"picture 0 4;picture 2 2;limit 0;",
        "picture 2 1;picture 0 9;picture 1 3;limit 2;"};
    private static final String[] DAYS = {"hang 0 0;hang 1 0;wear 0 1;enter 0 0;hour;hour;wear 0 3;",
        "wear 1 2;enter 1 3;hang 1 3;hour;hour;hang 2 3;hour;leave 1;"};
    private static final String[] SIGHTS = {"sneezed 0 1;", "calm 0 1;sneezed 1 2;"};
    private static final String[] DINNERS = {"guest 0 1;guest 1 2;guest 0 2;", "guest 1;guest 2 0;"};

    /** A call about a palette, one of another sort, and a day; n is what else it is asked for. */
    private interface Ask {
        long of(HueRash x, int palette, int other, int day, int n);
    }

    private static void tellAll(HueRash x, int palette, int other, int day, int number) {
        Probe.told(x, 0, PALETTES[palette], number);
        Probe.told(x, 1, GALLERIES[other], number);
        Probe.told(x, 2, DAYS[day], number);
        Probe.told(x, 3, SIGHTS[other], number);
        Probe.told(x, 4, DINNERS[other], number);
    }

    /** With two of each sort, each answers as it does alone, and not all of them alike. */
    private static void eachOfTwo(String call, int from, int to, Ask ask) {
        HueRash both = new HueRash();
        tellAll(both, 0, 0, 0, 0);
        tellAll(both, 1, 1, 1, 1);
        java.util.Set<String> answers = new java.util.TreeSet<>();
        for (int which = 0; which < 8; which++) {
            int palette = which & 1;
            int other = which >> 1 & 1;
            int day = which >> 2;
            HueRash alone = new HueRash();
            tellAll(alone, palette, other, day, 0);
            StringBuilder all = new StringBuilder();
            for (int n = from; n < to; n++) {
                long due = ask.of(alone, 0, 0, 0, n);
                Probe.due(call + " of " + palette + " " + other + " " + day + ", " + n,
                    ask.of(both, palette, other, day, n), due);
                all.append(due).append(' ');
            }
            answers.add(all.toString());
        }
        Probe.due("not all alike", answers.size() > 1, true);
    }

    static void p06_eachOfTwo() {
        eachOfTwo("palette", 0, 220, (x, p, o, d, n) -> x.palette(p, n));
    }

    static void p07_eachOfTwo() {
        eachOfTwo("rule", 0, 9, (x, p, o, d, n) -> x.rule(p, n / 3, n % 3));
    }

    static void p08_eachOfTwo() {
        eachOfTwo("strength", 0, 9, (x, p, o, d, n) -> x.strength(p, n / 3, n % 3));
    }

    static void p09_eachOfTwo() {
        eachOfTwo("minds", 0, 30, (x, p, o, d, n) -> x.minds(p, n / 10, n % 10, 0, 0));
    }

    static void p10_eachOfTwo() {
        eachOfTwo("gallery", 0, 23, (x, p, o, d, n) -> x.gallery(o, n));
    }

    static void p11_eachOfTwo() {
        eachOfTwo("deed", -1, 24, (x, p, o, d, n) -> n < 0 ? x.deed(d, -1, 0) : x.deed(d, n / 3, n % 3));
    }

    static void p12_eachOfTwo() {
        eachOfTwo("stop", 0, 1, (x, p, o, d, n) -> x.stop(p, o, d));
    }

    static void p13_eachOfTwo() {
        for (int deeds = 0; deeds < 9; deeds++) {
            int many = deeds;
            eachOfTwo("state", 0, 64, (x, p, o, d, n) -> x.state(p, o, d, n == 0 ? 0 : many, n == 0 ? 20 : n));
        }
    }

    static void p14_eachOfTwo() {
        eachOfTwo("hung", 0, 5, (x, p, o, d, n) -> x.hung(p, o, n));
    }

    static void p15_eachOfTwo() {
        eachOfTwo("rows", 0, 1, (x, p, o, d, n) -> x.rows(p, o));
    }

    static void p16_eachOfTwo() {
        eachOfTwo("row", 0, 3, (x, p, o, d, n) -> x.row(p, o, n));
    }

    static void p17_eachOfTwo() {
        eachOfTwo("repainted", 0, 13, (x, p, o, d, n) -> x.repainted(p, o, n));
    }

    static void p18_eachOfTwo() {
        eachOfTwo("loom", 0, 8, (x, p, o, d, n) -> x.loom(p, n));
    }

    static void p19_eachOfTwo() {
        eachOfTwo("thread", 0, 24, (x, p, o, d, n) -> x.thread(p, n / 3, n % 3));
    }

    static void p20_eachOfTwo() {
        eachOfTwo("mix", 0, 72, (x, p, o, d, n) -> x.mix(p, n / 24, n / 3 % 8, n % 3));
    }

    static void p21_eachOfTwo() {
        eachOfTwo("flags", -1, 3, (x, p, o, d, n) -> x.flags(p, n));
    }

    static void p22_eachOfTwo() {
        eachOfTwo("gain", 0, 66, (x, p, o, d, n) -> x.gain(p, n % 2, n / 2));
    }

    static void p23_eachOfTwo() {
        eachOfTwo("rest", -1, 9, (x, p, o, d, n) -> x.rest(p, n));
    }

    static void p24_eachOfTwo() {
        eachOfTwo("spread", 0, 6, (x, p, o, d, n) -> x.spread(p, n / 2, n % 2 == 1));
    }

    static void p25_eachOfTwo() {
        eachOfTwo("sneeze", -1, 6, (x, p, o, d, n) -> n < 0 ? x.sneeze(o, -1, 0) : x.sneeze(o, n / 3, n % 3));
    }

    static void p26_eachOfTwo() {
        eachOfTwo("fits", -2, 9, (x, p, o, d, n) -> n < 0 ? x.fits(p, o, -1, n + 2) : x.fits(p, o, n / 3, n % 3));
    }

    static void p27_eachOfTwo() {
        eachOfTwo("guest", -1, 3, (x, p, o, d, n) -> x.guest(o, n));
    }

    static void p28_eachOfTwo() {
        eachOfTwo("ways", 0, 1, (x, p, o, d, n) -> x.ways(p, o));
    }

    static void p29_eachOfTwo() {
        eachOfTwo("dinner", 0, 13, (x, p, o, d, n) -> x.dinner(p, o, n));
    }

    static void p30_eachOfTwo() {
        eachOfTwo("drawn", 0, 20, (x, p, o, d, n) -> x.drawn(p, o, 7, n / 2, n % 2));
    }
}
