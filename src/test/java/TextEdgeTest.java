/**
 * Promises 1 to 5, 31 to 33: for each sentence of the document that names a boundary case a test of its own.
 * The test's name begins with the promise's number; those of a text's form and faults are seen by promise 5.
 */
public final class TextEdgeTest {
    private static final int MAX = Integer.MAX_VALUE;
    private static final int MIN = Integer.MIN_VALUE;
    private static final String TEN_HUES = "hue 0 0 0;".repeat(10);
    private static final String[] TEXTS = {"hue 1 2 3;", "limit 5;", "hour;", "calm 0 1;", "guest 3;"};

    public static void main(String[] args) throws ReflectiveOperationException {
        java.util.TreeSet<Integer> promises = Probe.runNamed(TextEdgeTest.class);
        for (int promise : new int[] {1, 2, 3, 4, 5, 31, 32, 33}) {
            Probe.due("a test of promise " + promise, promises.contains(promise), true);
        }
        Probe.finish("TextEdgeTest");
    }

    // ---- a new object ----

    static void p01_noTexts() {
        HueRash x = new HueRash();
        for (int sort = 0; sort < 5; sort++) {
            Probe.due("count " + sort, x.count(sort), 0);
        }
        Probe.due("palette", x.palette(0, 0), -1);
        Probe.due("gallery", x.gallery(0, 0), -1);
        Probe.due("deed", x.deed(0, -1, 0), -2);
        Probe.due("sneeze", x.sneeze(0, -1, 0), -2);
        Probe.due("guest", x.guest(0, -1), -2);
    }

    static void p01_noImages() {
        HueRash x = new HueRash();
        for (int k = 0; k < 3; k++) {
            Probe.due("again " + k, x.again(k), false);
        }
    }

    static void p01_emptyTapeAndNoFault() {
        HueRash x = new HueRash();
        Probe.due("end 0", x.end(0), 0);
        Probe.due("end 1", x.end(1), -1);
        Probe.due("fault", x.fault(0), 0);
        Probe.due("place", x.fault(1), -1);
    }

    static void p01_constant() {
        Probe.due("NONE", HueRash.NONE, -1);
    }

    static void p01_holdsFor512Calls() {
        HueRash x = new HueRash();
        int calls = 0;
        // "hue 1 1 1;limit 20; " is told 36 times as a gallery and refused, then cut and kept
        for (int turn = 0; turn < 36; turn++) {
            Probe.due("feed", x.feed(0x68756520, 0x31203120, 0x313b6c69, 0x6d697420, 0x32303b20), 20);
            Probe.due("text", x.text(1, -1), -1);
            Probe.due("place", x.fault(1), 0);
            Probe.due("feed", x.feed(0x68756520, 0x31203120, 0x313b6c69, 0x6d697420, 0x32303b20), 20);
            Probe.due("end", x.end(10), 10);
            Probe.due("text", x.text(0, turn < 2 ? -1 : turn % 2), turn % 2);
            Probe.due("image", x.image(turn % 3), true);
            Probe.due("again", x.again(turn % 3), true);
            Probe.due("loom", x.loom(turn % 2, 1), 1);
            Probe.due("fits", x.fits(turn % 2, 0, -1, 0), -2);
            Probe.due("flags", x.flags(turn % 2, -1), 0);
            Probe.due("dot", x.palette(turn % 2, 4), 0);
            Probe.due("mix", x.mix(turn % 2, 0, 1023, 0), 0);
            Probe.due("rest", x.rest(turn % 2, -1), 1);
            calls += 14;
        }
        while (calls < 511) {
            Probe.due("count", x.count(0), 2);
            calls++;
        }
        Probe.due("the 512th", x.palette(1, 102), 1);
    }

    static void p01_objectsShareNothing() {
        HueRash x = Probe.world("hue 1 1 1;hue 2 2 2;like 0;", "picture 0 1;", "hour;", "calm 0 1;", "guest 0;");
        Probe.due("image", x.image(0), true);
        Probe.told(x, 0, "hue 1;", -1);
        Probe.tape(x, "hour;");
        HueRash y = new HueRash();
        for (int sort = 0; sort < 5; sort++) {
            Probe.due("none of sort " + sort, y.count(sort), 0);
        }
        Probe.due("no image", y.again(0), false);
        Probe.due("no tape", y.end(1), -1);
        Probe.due("no fault", y.fault(0), 0);
        Probe.told(y, 0, "hue 9 9 9;", 0);
        Probe.due("image", y.image(0), true);
        Probe.due("fault of the other", x.fault(0), 1);
        Probe.due("tape of the other", x.end(5), 5);
        Probe.due("palette of the other", x.palette(0, 100), 1);
        Probe.due("image of the other", x.again(0), true);
        Probe.due("palette of its image", x.palette(0, 110), 2);
        Probe.due("and its strengths", x.hung(0, 0, 0), 1);
    }

    // ---- feed ----

    private static HueRash fed(int feeds) {
        HueRash x = new HueRash();
        for (int k = 1; k <= feeds; k++) {
            Probe.due("feed " + k, blank(x), 20 * k);
        }
        return x;
    }

    private static int blank(HueRash x) {
        return x.feed(0x20202020, 0x20202020, 0x20202020, 0x20202020, 0x20202020);
    }

    static void p02_sixHundredBytesGoIn() {
        HueRash x = fed(30);
        Probe.due("all are there", x.end(600), 600);
    }

    static void p02_sixHundredAndTwentyDoNot() {
        Probe.due("feed", blank(fed(30)), -1);
    }

    static void p02_fiveHundredEightyIsTheLastLengthThatTakesMore() {
        HueRash x = fed(30);
        for (int n = 600; n > 580; n--) {
            Probe.due("end " + n, x.end(n), n);
            Probe.due("feed behind " + n, blank(x), -1);
        }
        Probe.due("end 580", x.end(580), 580);
        Probe.due("feed behind 580", blank(x), 600);
    }

    static void p02_refusedFeedBringsNothing() {
        HueRash x = fed(29);
        Probe.due("limit 7;", x.feed(0x6c696d69, 0x7420373b, 0x20202020, 0x20202020, 0x20202020), 600);
        Probe.due("end", x.end(588), 588);
        Probe.due("limit 8;", x.feed(0x6c696d69, 0x7420383b, 0x20202020, 0x20202020, 0x20202020), -1);
        Probe.due("no more", x.end(589), -1);
        Probe.due("text", x.text(1, -1), 0);
        Probe.due("limit", x.gallery(0, 1), 7);
    }

    static void p02_highestByteOfEachNumberFirst() {
        HueRash x = new HueRash();
        // "hue 1 2 3;" and "hue 4 5 6;", over five numbers
        Probe.due("feed", x.feed(0x68756520, 0x31203220, 0x333b6875, 0x65203420, 0x3520363b), 20);
        Probe.due("text", x.text(0, -1), 0);
        for (int k = 0; k < 6; k++) {
            Probe.due("part " + k, x.palette(0, 100 + 10 * (k / 3) + k % 3), k + 1);
        }
    }

    static void p02_eachByteFrom0To255() {
        for (int number = 0; number < 5; number++) {
            for (int shift = 24; shift >= 0; shift -= 8) {
                for (int sign : new int[] {0, 127, 128, 255}) {
                    int[] n = {0x20202020, 0x20202020, 0x20202020, 0x20202020, 0x20202020};
                    n[number] = n[number] & ~(255 << shift) | sign << shift;
                    HueRash x = new HueRash();
                    x.feed(n[0], n[1], n[2], n[3], n[4]);
                    Probe.due("text with " + sign, x.text(1, -1), -1);
                    Probe.due("place of " + sign, x.fault(1), 4 * number + 3 - shift / 8);
                }
            }
        }
    }

    static void p02_behindWhatIsThere() {
        HueRash x = new HueRash();
        Probe.due("limit 77;", x.feed(0x6c696d69, 0x7420373b, 0x21212121, 0x21212121, 0x21212121), 20);
        Probe.due("end", x.end(7), 7);
        Probe.due("3;", x.feed(0x333b2020, 0x20202020, 0x20202020, 0x20202020, 0x20202020), 27);
        Probe.due("text", x.text(1, -1), 0);
        Probe.due("limit", x.gallery(0, 1), 73);
    }

    // ---- end ----

    static void p03_asManyAsItHas() {
        HueRash x = fed(2);
        Probe.due("one more than all", x.end(41), -1);
        Probe.due("all", x.end(40), 40);
        Probe.due("one less", x.end(39), 39);
        Probe.due("all are no more there", x.end(40), -1);
        Probe.due("greatest", x.end(MAX), -1);
    }

    static void p03_below0() {
        HueRash x = fed(1);
        Probe.due("end -1", x.end(-1), -1);
        Probe.due("least", x.end(MIN), -1);
        Probe.due("end 0", x.end(0), 0);
        Probe.due("empty", x.end(1), -1);
    }

    static void p03_emptyTape() {
        HueRash x = new HueRash();
        Probe.due("end 0", x.end(0), 0);
        Probe.due("end -1", x.end(-1), -1);
        Probe.due("end 1", x.end(1), -1);
    }

    static void p03_fullTape() {
        HueRash x = fed(30);
        Probe.due("end 601", x.end(601), -1);
        Probe.due("end 600", x.end(600), 600);
    }

    static void p03_refusedEndLeavesTheTape() {
        HueRash x = new HueRash();
        Probe.tape(x, "limit 7;");
        Probe.due("end 9", x.end(9), -1);
        Probe.due("end -1", x.end(-1), -1);
        Probe.due("text", x.text(1, -1), 0);
        Probe.due("limit", x.gallery(0, 1), 7);
    }

    static void p03_theFirstBytesStay() {
        HueRash x = new HueRash();
        Probe.tape(x, "limit 77;limit 8;");
        Probe.due("end 9", x.end(9), 9);
        Probe.due("text", x.text(1, -1), 0);
        Probe.due("limit", x.gallery(0, 1), 77);
    }

    // ---- text ----

    static void p04_furtherOnesAtNone() {
        for (int sort = 0; sort < 5; sort++) {
            HueRash x = new HueRash();
            Probe.told(x, sort, TEXTS[sort], 0);
            Probe.due("one", x.count(sort), 1);
            Probe.told(x, sort, TEXTS[sort], 1);
            Probe.due("two", x.count(sort), 2);
        }
    }

    static void p04_aThirdOneIsOneTooMany() {
        for (int sort = 0; sort < 5; sort++) {
            HueRash x = new HueRash();
            Probe.told(x, sort, TEXTS[sort], 0);
            Probe.told(x, sort, TEXTS[sort], 1);
            Probe.told(x, sort, "", -2);
            Probe.due("two", x.count(sort), 2);
            for (int other = 0; other < 5; other++) {
                if (other != sort) {
                    Probe.told(x, other, TEXTS[other], 0);
                }
            }
        }
        HueRash x = Probe.world(null, "limit 5;");
        Probe.told(x, 1, "limit 6;", 1);
        Probe.told(x, 1, "limit 7;", -2);
        Probe.due("the first stays", x.gallery(0, 1), 5);
        Probe.due("the second stays", x.gallery(1, 1), 6);
    }

    static void p04_inThePlaceOfTheFirstAndTheLast() {
        HueRash x = Probe.world(null, "limit 5;");
        Probe.retold(x, 1, 0, "limit 6;");
        Probe.due("in the only place", x.gallery(0, 1), 6);
        Probe.told(x, 1, "limit 7;", 1);
        Probe.retold(x, 1, 1, "limit 8;");
        Probe.due("the first", x.gallery(0, 1), 6);
        Probe.due("the second", x.gallery(1, 1), 8);
        Probe.retold(x, 1, 0, "limit 9;");
        Probe.due("the first", x.gallery(0, 1), 9);
        Probe.due("the second", x.gallery(1, 1), 8);
        Probe.due("two", x.count(1), 2);
    }

    static void p04_noneSuch() {
        for (int sort = 0; sort < 5; sort++) {
            HueRash x = new HueRash();
            for (int there = 0; there <= 2; there++) {
                for (int at : new int[] {there, there + 1, -2, MIN, MAX}) {
                    Probe.tape(x, TEXTS[sort]);
                    Probe.due("in place " + at + " of " + there, x.text(sort, at), -2);
                    Probe.due("count", x.count(sort), there);
                }
                if (there < 2) {
                    Probe.told(x, sort, TEXTS[sort], there);
                }
            }
        }
    }

    static void p04_noSuchSort() {
        HueRash x = new HueRash();
        for (int sort : new int[] {-1, 5, 6, -2, MIN, MAX}) {
            Probe.told(x, sort, "", -2);
            Probe.tape(x, "");
            Probe.due("sort " + sort + " at 0", x.text(sort, 0), -2);
        }
        for (int sort = 0; sort < 5; sort++) {
            Probe.due("count", x.count(sort), 0);
            Probe.told(x, sort, "", 0);
        }
    }

    /** The three kinds of refusal: no such place, as many as may be, no such sort. */
    private static void refuse(HueRash x, int kind, String text) {
        Probe.tape(x, text);
        Probe.due("refused " + kind, x.text(kind == 2 ? 5 : 1, kind == 0 ? 2 : -1), -2);
    }

    static void p04_refusedTextEmptiesTheTape() {
        for (int kind = 0; kind < 3; kind++) {
            HueRash x = Probe.world("hue 1 1 1;", "limit 5;");
            Probe.told(x, 1, "limit 6;", 1);
            refuse(x, kind, "limit 7;");
            Probe.due("empty", x.end(1), -1);
            Probe.due("an empty text is read", x.text(0, 0), 0);
            Probe.due("no hues", x.palette(0, 0), 0);
        }
    }

    static void p04_refusedTextHasFault0() {
        for (int kind = 0; kind < 3; kind++) {
            HueRash x = Probe.world(null, "limit 5;");
            Probe.told(x, 1, "limit 6;", 1);
            Probe.tape(x, "limit x;");
            Probe.due("a fault", x.text(1, 0), -1);
            Probe.due("fault", x.fault(0), 1);
            refuse(x, kind, "limit 7;");
            Probe.due("fault is gone", x.fault(0), 0);
            Probe.due("place is gone", x.fault(1), -1);
        }
    }

    static void p04_refusedTextIsNotRead() {
        for (int kind = 0; kind < 3; kind++) {
            HueRash x = Probe.world(null, "limit 5;");
            Probe.told(x, 1, "limit 6;", 1);
            refuse(x, kind, "limit x;");
            Probe.due("no fault", x.fault(0), 0);
            Probe.due("no place", x.fault(1), -1);
            refuse(x, kind, "limit 7;");
            Probe.due("the first stays", x.gallery(0, 1), 5);
            Probe.due("the second stays", x.gallery(1, 1), 6);
        }
    }

    static void p04_aFaultIsNoneAndChangesNothing() {
        HueRash x = Probe.world("hue 1 2 3;hue 4 5 6;pair 0 1;likes 1 1 4;");
        for (String text : new String[] {"hue 9 9 9;x", "hue 9 9 10;", TEN_HUES + "hue 9 9 9;", "hue 9 9 9;pair 0 1;"}) {
            for (int at = -1; at < 1; at++) {
                Probe.tape(x, text);
                Probe.due("text", x.text(0, at), -1);
                Probe.due("palettes", x.count(0), 1);
                Probe.due("hues", x.palette(0, 0), 2);
                Probe.due("rules", x.palette(0, 1), 1);
                Probe.due("part", x.palette(0, 110), 4);
                Probe.due("likes", x.palette(0, 211), 4);
                Probe.due("strength", x.strength(0, 0, 1), 1);
            }
        }
        String[] rows = {"limit 9;picture 9 9;x", "hour;hour;take 9;", "calm 2 3;calm 4 4;", "guest 4 5;guest 1 1;"};
        for (int sort = 1; sort < 5; sort++) {
            HueRash y = new HueRash();
            Probe.told(y, sort, TEXTS[sort], 0);
            Probe.tape(y, rows[sort - 1]);
            Probe.due("text", y.text(sort, 0), -1);
            Probe.due("limit", y.gallery(0, 1), sort == 1 ? 5 : -1);
            Probe.due("pictures", y.gallery(0, 0), sort == 1 ? 0 : -1);
            Probe.due("deeds", y.deed(0, -1, 0), sort == 2 ? 1 : -2);
            Probe.due("sneezes", y.sneeze(0, -1, 0), sort == 3 ? 1 : -2);
            Probe.due("guests", y.guest(0, -1), sort == 4 ? 1 : -2);
        }
    }

    static void p04_aFaultEmptiesTheTape() {
        HueRash x = new HueRash();
        Probe.told(x, 1, "limit 7;limit x;", -1);
        Probe.due("empty", x.end(1), -1);
        Probe.due("an empty text is read", x.text(1, -1), 0);
        Probe.due("usual limit", x.gallery(0, 1), 10);
    }

    static void p04_aTextEmptiesTheTape() {
        HueRash x = new HueRash();
        Probe.told(x, 1, "limit 7;", 0);
        Probe.due("empty", x.end(1), -1);
        Probe.due("an empty text is read", x.text(1, -1), 1);
        Probe.due("usual limit", x.gallery(1, 1), 10);
    }

    static void p04_anEmptyTextIsOne() {
        for (int sort = 0; sort < 5; sort++) {
            Probe.fine(sort, "");
            Probe.fine(sort, " ");
            Probe.fine(sort, "\n");
        }
    }

    static void p04_aTextOfSixHundredBytes() {
        Probe.fine(2, "hour;" + " ".repeat(595));
        Probe.fine(2, " ".repeat(595) + "hour;");
        Probe.faulty(2, " ".repeat(599) + "h", 1, 599);
        Probe.faulty(2, " ".repeat(596) + "hour", 1, 600);
        Probe.fine(0, TEN_HUES + "likes 0 9 9;".repeat(41) + "        ");
        Probe.faulty(0, TEN_HUES + "likes 0 9 9;".repeat(41) + "likes 0x", 1, 599);
    }

    static void p04_nothingIsLeftOfTheOldOne() {
        HueRash x = Probe.world("hue 0 0 0;hue 0 0 0;pair 0 1;likes 0 1 5;", "picture 0 1;limit 3;", "hour;hour;",
            "calm 0 1;calm 0 2;", "guest 0;guest 1;");
        Probe.retold(x, 0, 0, "hue 1 1 1;hue 1 1 1;");
        Probe.due("rules", x.palette(0, 1), 0);
        Probe.due("likes", x.palette(0, 201), 0);
        Probe.due("strength", x.strength(0, 0, 1), 0);
        StringBuilder likes = new StringBuilder(TEN_HUES);
        for (int k = 0; k < 20; k++) {
            likes.append("likes ").append(k / 10).append(' ').append(k % 10).append(" 9;");
        }
        Probe.told(x, 0, likes.toString(), 1);
        Probe.retold(x, 0, 1, TEN_HUES);
        for (int k = 0; k < 20; k++) {
            Probe.due("likes " + k, x.palette(1, 200 + k), 0);
        }
        Probe.retold(x, 1, 0, "picture 1 2;");
        Probe.due("limit", x.gallery(0, 1), 10);
        Probe.due("pictures", x.gallery(0, 0), 1);
        Probe.retold(x, 2, 0, "");
        Probe.due("deeds", x.deed(0, -1, 0), 0);
        Probe.retold(x, 3, 0, "");
        Probe.due("sneezes", x.sneeze(0, -1, 0), 0);
        Probe.retold(x, 4, 0, "");
        Probe.due("guests", x.guest(0, -1), 0);
    }

    // ---- fault ----

    static void p05_anotherWhat() {
        HueRash x = new HueRash();
        Probe.told(x, 1, "limit x;", -1);
        for (int what : new int[] {-1, 2, 3, MIN, MAX}) {
            Probe.due("fault " + what, x.fault(what), -1);
        }
        Probe.due("fault", x.fault(0), 1);
        Probe.due("place", x.fault(1), 6);
    }

    static void p05_withoutAFault() {
        HueRash x = new HueRash();
        Probe.due("before any text", x.fault(0), 0);
        Probe.due("before any text", x.fault(1), -1);
        Probe.told(x, 1, "limit 1;", 0);
        Probe.due("without", x.fault(0), 0);
        Probe.due("without", x.fault(1), -1);
    }

    static void p05_ofTheLatestText() {
        HueRash x = new HueRash();
        Probe.told(x, 1, " limit 1 2;", -1);
        Probe.told(x, 2, "take 9;", -1);
        Probe.due("fault", x.fault(0), 2);
        Probe.due("place", x.fault(1), 5);
        Probe.tape(x, "hour;");
        Probe.due("end", x.end(99), -1);
        Probe.due("fault stays until the next text", x.fault(0), 2);
        Probe.due("place stays until the next text", x.fault(1), 5);
        Probe.due("text", x.text(2, -1), 0);
        Probe.due("fault", x.fault(0), 0);
        Probe.due("place", x.fault(1), -1);
    }

    static void p05_fault1AtPlace0() {
        for (int sort = 0; sort < 5; sort++) {
            Probe.faulty(sort, "x", 1, 0);
            Probe.faulty(sort, "0", 1, 0);
            Probe.faulty(sort, ";", 1, 0);
            Probe.faulty(sort, "\u00ff", 1, 0);
        }
    }

    // ---- tokens ----

    static void p05_blanksAre10And32() {
        for (int sign = 0; sign < 256; sign++) {
            String text = "limit" + (char) sign + "1;";
            if (sign == 10 || sign == 32 || sign >= '0' && sign <= '9') {
                Probe.fine(1, text);
            } else {
                Probe.faulty(1, text, 1, sign >= 'a' && sign <= 'z' ? 0 : 5);
            }
        }
    }

    static void p05_lettersAreAToZ() {
        for (int sign = 0; sign < 256; sign++) {
            String text = (char) sign + "our;";
            if (sign == 'h') {
                Probe.fine(2, text);
            } else {
                Probe.faulty(2, text, 1, sign == 10 || sign == 32 ? 1 : 0);
            }
        }
        Probe.faulty(2, "houR;", 1, 0);
        Probe.faulty(2, "hourR;", 1, 4);
        Probe.faulty(2, "`hour;", 1, 0);
        Probe.faulty(2, "hour{;", 1, 4);
        Probe.faulty(2, "hourz;", 1, 0);
        Probe.faulty(2, "ahour;", 1, 0);
    }

    static void p05_digitsAre0To9() {
        for (int sign = 0; sign < 256; sign++) {
            String text = "limit 1" + (char) sign + ";";
            if (sign == 10 || sign == 32 || sign >= '0' && sign <= '9') {
                Probe.fine(1, text);
            } else {
                Probe.faulty(1, text, 1, sign == ';' ? 8 : 7);
            }
        }
    }

    static void p05_semicolonIsOneByte() {
        Probe.fine(2, "hour ; hour;\n");
        Probe.faulty(2, "hour;;", 1, 5);
        Probe.faulty(2, "hour:", 1, 4);
        Probe.faulty(2, "hour,", 1, 4);
    }

    static void p05_aNumberHasOneOrTwoDigits() {
        Probe.fine(1, "limit 0;");
        Probe.fine(1, "limit 00;");
        Probe.fine(1, "limit 09;");
        Probe.fine(1, "limit 99;");
        Probe.faulty(1, "limit;", 1, 5);
        HueRash x = Probe.world(null, "limit 07;");
        Probe.due("07", x.gallery(0, 1), 7);
    }

    static void p05_aLongerRowOfDigitsIsNoToken() {
        Probe.faulty(1, "limit 000;", 1, 6);
        Probe.faulty(1, "limit 007;", 1, 6);
        Probe.faulty(1, "limit 100;", 1, 6);
        Probe.faulty(1, "limit 2147483648;", 1, 6);
        Probe.faulty(1, "limit 4294967297;", 1, 6);
        Probe.faulty(1, "limit " + "0".repeat(594), 1, 6);
        Probe.faulty(1, "picture 0 001;", 1, 10);
        Probe.faulty(4, "guest 1 222;", 1, 8);
        Probe.faulty(2, "hour 000;", 1, 5);
    }

    static void p05_tokensGoAsLongAsTheyGo() {
        Probe.fine(0, "hue1 2 3;");
        Probe.faulty(0, "hue12 3 4;", 2, 3);
        Probe.faulty(0, "hue 1 23;", 1, 8);
        Probe.faulty(0, "like likes 0 0 0;", 1, 5);
        Probe.fine(0, "like 0;likes 0 0 0;hue 0 0 0;");
        Probe.faulty(0, "likeslike 0;", 1, 0);
        Probe.faulty(0, "lik e 0;", 1, 0);
        Probe.faulty(0, "like 0 0;", 1, 7);
        Probe.faulty(1, "limit 1 0;", 1, 8);
    }

    static void p05_linesOfOtherSorts() {
        String[][] words = {{"hue", "sum", "gap", "like", "pair", "cure", "likes"}, {"picture", "limit"},
            {"hang", "take", "wear", "enter", "leave", "hour"}, {"sneezed", "calm"}, {"guest"}};
        for (int sort = 0; sort < 5; sort++) {
            for (int other = 0; other < 5; other++) {
                for (String word : words[other]) {
                    if (sort == other) {
                        // the word is taken, and the text's end is the fault
                        Probe.faulty(sort, word, 1, word.length());
                    } else {
                        Probe.faulty(sort, word, 1, 0);
                    }
                }
            }
        }
    }

    static void p05_asManyNumbersAsTheLineHas() {
        String[][] lines = {{"hue 0 0 0", "sum 0 0", "gap 0 1", "like 0", "pair 0 1", "cure 0 1", "likes 0 0 0"},
            {"picture 0 1", "limit 0"}, {"hang 0 0", "take 0", "wear 0 0", "enter 0 0", "leave 0", "hour"},
            {"sneezed 0 1", "calm 0 1"}};
        for (int sort = 0; sort < 4; sort++) {
            for (String line : lines[sort]) {
                Probe.fine(sort, line + ";" + (sort == 0 ? "hue 0 0 0;hue 0 0 0;" : ""));
                Probe.faulty(sort, line + " 0;", 1, line.length() + 1);
                Probe.faulty(sort, line + "  ", 1, line.length() + 2);
                if (line.indexOf(' ') > 0) {
                    String less = line.substring(0, line.lastIndexOf(' '));
                    Probe.faulty(sort, less + ";", 1, less.length());
                }
            }
        }
    }

    static void p05_aGuestHasAtLeastOneNumber() {
        Probe.faulty(4, "guest;", 1, 5);
        Probe.faulty(4, "guest ;", 1, 6);
        Probe.fine(4, "guest 0;");
    }

    static void p05_aGuestHasAtMostAllTenHues() {
        Probe.fine(4, "guest 9 8 7 6 5 4 3 2 1 0;");
        Probe.faulty(4, "guest 9 8 7 6 5 4 3 2 1 0 0;", 2, 26);
    }

    static void p05_unfinishedAtTheEndsPlace() {
        Probe.faulty(0, "hue 1 2 3", 1, 9);
        Probe.faulty(0, "hue 1 2 3 \n ", 1, 12);
        Probe.faulty(0, "hue", 1, 3);
        Probe.faulty(4, "guest 1", 1, 7);
    }

    // ---- numbers that can't be ----

    /** The last numbers that are in are told; the first ones that are out are fault 2 at their place. */
    private static void range(int sort, String before, int least, int most, String behind) {
        Probe.fine(sort, before + least + behind);
        Probe.fine(sort, before + most + behind);
        Probe.faulty(sort, before + (most + 1) + behind, 2, before.length());
        if (most + 1 < 99) {
            Probe.faulty(sort, before + 99 + behind, 2, before.length());
        }
        if (least > 0) {
            Probe.faulty(sort, before + (least - 1) + behind, 2, before.length());
            Probe.faulty(sort, before + 0 + behind, 2, before.length());
        }
    }

    static void p05_partsAre0To9() {
        range(0, "hue ", 0, 9, " 0 0;");
        range(0, "hue 0 ", 0, 9, " 0;");
        range(0, "hue 0 0 ", 0, 9, ";");
    }

    static void p05_sumsLoIs0To54() {
        range(0, "sum ", 0, 54, " 54;");
    }

    static void p05_sumsHiIs0To54() {
        range(0, "sum 0 ", 0, 54, ";");
    }

    static void p05_sumsHiIsNotBelowLo() {
        range(0, "sum 1 ", 1, 54, ";");
        range(0, "sum 27 ", 27, 54, ";");
        range(0, "sum 54 ", 54, 54, ";");
    }

    static void p05_gapsPartIs0To2() {
        range(0, "gap ", 0, 2, " 1;");
    }

    static void p05_gapsNumberIs1To9() {
        range(0, "gap 0 ", 1, 9, ";");
        range(0, "gap 2 ", 1, 9, ";");
    }

    static void p05_likesPartIs0To2() {
        range(0, "like ", 0, 2, ";");
    }

    static void p05_pairsFirstHueIs0To9() {
        range(0, "pair ", 0, 9, " 5;" + TEN_HUES);
    }

    static void p05_pairsSecondHueIs0To9() {
        range(0, "pair 5 ", 0, 9, ";" + TEN_HUES);
    }

    static void p05_pairsSecondHueIsNotTheFirst() {
        for (int a = 0; a < 10; a++) {
            for (int b = 0; b < 10; b++) {
                Probe.faulty(0, "pair " + a + " " + b + ";" + TEN_HUES, a == b ? 2 : 0, a == b ? 7 : -1);
            }
        }
    }

    static void p05_curesPartIs0To2() {
        range(0, "cure ", 0, 2, " 1;");
    }

    static void p05_curesNumberIs1To18() {
        range(0, "cure 0 ", 1, 18, ";");
        range(0, "cure 2 ", 1, 18, ";");
    }

    static void p05_likesNeighbourIs0Or1() {
        range(0, "likes ", 0, 1, " 0 0;" + TEN_HUES);
    }

    static void p05_likesHueIs0To9() {
        range(0, "likes 0 ", 0, 9, " 0;" + TEN_HUES);
    }

    static void p05_likesNumberIs0To9() {
        range(0, "likes 0 0 ", 0, 9, ";" + TEN_HUES);
    }

    static void p05_picturesHueIs0To9() {
        range(1, "picture ", 0, 9, " 1;");
    }

    static void p05_picturesAreaIs1To9() {
        range(1, "picture 0 ", 1, 9, ";");
    }

    static void p05_limitIs0To99() {
        Probe.fine(1, "limit 0;");
        Probe.fine(1, "limit 99;");
        Probe.faulty(1, "limit 100;", 1, 6);
    }

    static void p05_hangsPictureIs0To8() {
        range(2, "hang ", 0, 8, " 0;");
    }

    static void p05_hangsRoomIs0To3() {
        range(2, "hang 0 ", 0, 3, ";");
    }

    static void p05_takesPictureIs0To8() {
        range(2, "take ", 0, 8, ";");
    }

    static void p05_wearsPersonIs0To5() {
        range(2, "wear ", 0, 5, " 0;");
    }

    static void p05_wearsHueIs0To9() {
        range(2, "wear 0 ", 0, 9, ";");
    }

    static void p05_entersPersonIs0To5() {
        range(2, "enter ", 0, 5, " 0;");
    }

    static void p05_entersRoomIs0To3() {
        range(2, "enter 0 ", 0, 3, ";");
    }

    static void p05_leavesPersonIs0To5() {
        range(2, "leave ", 0, 5, ";");
    }

    static void p05_sneezedsHuesAre0To9() {
        range(3, "sneezed ", 0, 9, " 5;");
        range(3, "sneezed 5 ", 0, 9, ";");
    }

    static void p05_calmsHuesAre0To9() {
        range(3, "calm ", 0, 9, " 5;");
        range(3, "calm 5 ", 0, 9, ";");
    }

    static void p05_sneezesHuesAreUnlike() {
        for (int a = 0; a < 10; a++) {
            for (int b = 0; b < 10; b++) {
                Probe.faulty(3, "sneezed " + a + " " + b + ";", a == b ? 2 : 0, a == b ? 10 : -1);
                Probe.faulty(3, "calm " + a + " " + b + ";", a == b ? 2 : 0, a == b ? 7 : -1);
            }
        }
    }

    static void p05_guestsHuesAre0To9() {
        range(4, "guest ", 0, 9, ";");
        range(4, "guest 5 ", 0, 9, ";");
    }

    static void p05_guestsHuesAreToldOnce() {
        for (int h = 0; h < 10; h++) {
            int other = (h + 1) % 10;
            Probe.faulty(4, "guest " + h + " " + h + ";", 2, 8);
            Probe.faulty(4, "guest " + h + " " + other + " " + h + ";", 2, 10);
            Probe.fine(4, "guest " + h + ";guest " + h + ";");
        }
    }

    // ---- one too many ----

    /** As many as may be are told; one more is fault 3 at its first token. */
    private static void most(int sort, String line, int most, String last) {
        String full = line.repeat(most - 1) + last;
        Probe.fine(sort, full);
        Probe.faulty(sort, full + last, 3, full.length());
        Probe.faulty(sort, full + " \n" + last, 3, full.length() + 2);
        Probe.faulty(sort, full + line + last, 3, full.length());
    }

    static void p05_anEleventhHue() {
        most(0, "hue 0 0 0;", 10, "hue 9 9 9;");
        Probe.due("ten", Probe.world(TEN_HUES).palette(0, 0), 10);
    }

    static void p05_aSeventhRule() {
        String two = "hue 0 0 0;hue 0 0 0;";
        for (String last : new String[] {"sum 0 54;", "gap 2 9;", "like 2;", "pair 0 1;", "cure 2 18;"}) {
            String full = two + "like 0;".repeat(5) + last;
            Probe.fine(0, full);
            Probe.faulty(0, full + "like 0;", 3, full.length());
            Probe.faulty(0, two + "like 0;".repeat(6) + last, 3, full.length() - last.length() + 7);
        }
        Probe.due("six", Probe.world("sum 0 0;gap 0 1;like 0;cure 0 1;like 0;like 0;").palette(0, 1), 6);
    }

    static void p05_aTenthPicture() {
        most(1, "picture 0 1;", 9, "picture 9 9;");
        Probe.due("nine", Probe.world(null, "picture 0 1;".repeat(9)).gallery(0, 0), 9);
    }

    static void p05_aFortyFirstDeed() {
        for (String last : new String[] {"hang 0 0;", "take 0;", "wear 0 0;", "enter 0 0;", "leave 0;", "hour;"}) {
            most(2, "hour;", 40, last);
        }
        Probe.due("forty", Probe.world(null, null, "hour;".repeat(40)).deed(0, -1, 0), 40);
    }

    static void p05_aThirteenthSneeze() {
        most(3, "calm 0 1;", 12, "sneezed 0 1;");
        most(3, "sneezed 0 1;", 12, "calm 0 1;");
        Probe.due("twelve", Probe.world(null, null, null, "calm 0 1;".repeat(12)).sneeze(0, -1, 0), 12);
    }

    static void p05_aNinthGuest() {
        most(4, "guest 0;", 8, "guest 1 2 3;");
        Probe.due("eight", Probe.world(null, null, null, null, "guest 0;".repeat(8)).guest(0, -1), 8);
    }

    static void p05_limitsAndLikesAreNeverTooMany() {
        Probe.fine(1, "picture 0 1;".repeat(9) + "limit 1;".repeat(20));
        Probe.fine(0, "hue 0 0 0;".repeat(10) + "like 0;".repeat(6) + "likes 0 0 1;".repeat(30));
        Probe.fine(0, "likes 0 0 1;".repeat(20) + "hue 0 0 0;".repeat(10) + "like 0;".repeat(6));
    }

    static void p05_laterLimitsStrike() {
        Probe.due("limit", Probe.world(null, "limit 3;picture 0 1;limit 99;limit 0;").gallery(0, 1), 0);
    }

    static void p05_laterLikesStrike() {
        HueRash x = Probe.world("hue 0 0 0;hue 0 0 0;likes 0 1 5;likes 1 1 6;likes 0 0 7;likes 0 1 0;");
        Probe.due("struck", x.palette(0, 201), 0);
        Probe.due("the other neighbour's", x.palette(0, 211), 6);
        Probe.due("the other hue's", x.palette(0, 200), 7);
    }

    static void p05_theOthersAreFurtherOnes() {
        HueRash x = Probe.world("hue 1 1 1;hue 1 1 1;like 0;like 0;pair 0 1;pair 1 0;", "picture 0 1;picture 0 1;",
            "wear 0 1;wear 0 1;", "calm 0 1;calm 0 1;sneezed 0 1;", "guest 0;guest 0;");
        Probe.due("hues", x.palette(0, 0), 2);
        Probe.due("rules", x.palette(0, 1), 4);
        Probe.due("each rule counts", x.strength(0, 0, 1), 4);
        Probe.due("pictures", x.gallery(0, 0), 2);
        Probe.due("deeds", x.deed(0, -1, 0), 2);
        Probe.due("sneezes", x.sneeze(0, -1, 0), 3);
        Probe.due("guests", x.guest(0, -1), 2);
    }

    // ---- which fault it is ----

    static void p05_fault1GoesBeforeAllOthers() {
        Probe.faulty(0, "hue 10 0 0;hue", 1, 14);
        Probe.faulty(0, TEN_HUES + "hue 0 0 0;!", 1, 110);
        Probe.faulty(0, "pair 0 1;hue 0 0 000;", 1, 17);
        Probe.faulty(4, "guest 1 1", 1, 9);
    }

    static void p05_theFirstFault1() {
        Probe.faulty(0, "hue 0 ;0;!", 1, 6);
        Probe.faulty(0, "hue ! 0 000;", 1, 4);
        Probe.faulty(0, "wine 000;", 1, 0);
    }

    static void p05_theFirstByPlace() {
        Probe.faulty(0, "hue 0 10 10;hue 10 0 0;", 2, 6);
        Probe.faulty(0, "hue 0 0 0;hue 10 0 0;" + TEN_HUES, 2, 14);
        Probe.faulty(0, TEN_HUES + "hue 0 0 0;hue 10 0 0;", 3, 100);
        Probe.faulty(0, TEN_HUES + "like 3;hue 0 0 0;", 2, 105);
        Probe.faulty(1, "limit 0;picture 0 0;picture 10 0;", 2, 18);
        Probe.faulty(4, "guest 1 1;" + "guest 0;".repeat(8), 2, 8);
    }

    static void p05_aFullLineGoesBeforeItsNumbers() {
        Probe.faulty(0, TEN_HUES + "hue 10 0 0;", 3, 100);
        Probe.faulty(0, "like 0;".repeat(6) + "pair 1 1;", 3, 42);
        Probe.faulty(1, "picture 0 1;".repeat(9) + "picture 0 0;", 3, 108);
        Probe.faulty(2, "hour;".repeat(40) + "take 9;", 3, 200);
        Probe.faulty(3, "calm 0 1;".repeat(12) + "calm 0 0;", 3, 108);
        Probe.faulty(4, "guest 0;".repeat(8) + "guest 1 1;", 3, 64);
    }

    static void p05_aLineWithABadNumberIsTold() {
        // it is fault 2 by place; the hue is told all the same, so there is no fault 4 for it either
        Probe.faulty(0, "hue 10 0 0;" + TEN_HUES, 2, 4);
        Probe.faulty(0, "likes 0 0 1;hue 0 0 10;", 2, 20);
        Probe.faulty(0, "pair 0 0;", 2, 7);
    }

    static void p05_fault4AtTheEndsPlace() {
        Probe.faulty(0, "pair 0 1;hue 0 0 0; \n", 4, 21);
        Probe.faulty(0, "likes 0 0 0;", 4, 12);
    }

    static void p05_fault4OnlyWithoutTheOthers() {
        Probe.faulty(0, "pair 0 1;hue 0 0 10;", 2, 17);
        Probe.faulty(0, "pair 0 1;" + "like 0;".repeat(6), 3, 44);
        Probe.faulty(0, "pair 0 1;x", 1, 9);
    }

    static void p05_pairsFirstHueMustBeThere() {
        for (int hues = 2; hues < 10; hues++) {
            String text = "hue 0 0 0;".repeat(hues) + "pair " + (hues - 1) + " 0;";
            Probe.fine(0, text);
            Probe.fine(0, "pair " + (hues - 1) + " 0;" + "hue 0 0 0;".repeat(hues));
            Probe.faulty(0, "hue 0 0 0;".repeat(hues) + "pair " + hues + " 0;", 4, text.length());
        }
        Probe.fine(0, TEN_HUES + "pair 9 0;");
    }

    static void p05_pairsSecondHueMustBeThere() {
        for (int hues = 2; hues < 10; hues++) {
            String text = "hue 0 0 0;".repeat(hues) + "pair 0 " + (hues - 1) + ";";
            Probe.fine(0, text);
            Probe.faulty(0, "hue 0 0 0;".repeat(hues) + "pair 0 " + hues + ";", 4, text.length());
        }
        Probe.fine(0, TEN_HUES + "pair 0 9;");
    }

    static void p05_likesHueMustBeThere() {
        for (int hues = 1; hues < 10; hues++) {
            String text = "hue 0 0 0;".repeat(hues) + "likes 1 " + (hues - 1) + " 9;";
            Probe.fine(0, text);
            Probe.faulty(0, "hue 0 0 0;".repeat(hues) + "likes 1 " + hues + " 0;", 4, text.length());
        }
        Probe.fine(0, TEN_HUES + "likes 1 9 9;");
    }

    static void p05_fault4IsOfPalettesAlone() {
        Probe.fine(1, "picture 9 1;");
        Probe.fine(2, "wear 0 9;");
        Probe.fine(3, "calm 8 9;");
        Probe.fine(4, "guest 9;");
    }

    // ---- count, images ----

    static void p31_anotherSort() {
        HueRash x = Probe.world("", "", "", "", "");
        for (int sort : new int[] {-1, 5, 6, MIN, MAX}) {
            Probe.due("count " + sort, x.count(sort), -2);
        }
        for (int sort = 0; sort < 5; sort++) {
            Probe.due("count " + sort, x.count(sort), 1);
        }
    }

    static void p31_eachSortHasItsOwnNumber() {
        for (int sort = 0; sort < 5; sort++) {
            HueRash x = new HueRash();
            Probe.told(x, sort, "", 0);
            Probe.told(x, sort, "", 1);
            for (int other = 0; other < 5; other++) {
                Probe.due("count " + other, x.count(other), other == sort ? 2 : 0);
            }
        }
    }

    static void p32_images0To2() {
        HueRash x = new HueRash();
        for (int k : new int[] {-1, 3, 4, MIN, MAX}) {
            Probe.due("image " + k, x.image(k), false);
        }
        for (int k = 0; k < 3; k++) {
            Probe.due("image " + k, x.image(k), true);
        }
    }

    static void p32_refusedImageLeavesAll() {
        HueRash x = Probe.world(null, "limit 5;");
        Probe.due("image 0", x.image(0), true);
        Probe.due("image 2", x.image(2), true);
        Probe.retold(x, 1, 0, "limit 6;");
        Probe.due("image 3", x.image(3), false);
        Probe.due("image -1", x.image(-1), false);
        Probe.due("limit", x.gallery(0, 1), 6);
        Probe.due("again 2", x.again(2), true);
        Probe.due("limit", x.gallery(0, 1), 5);
        Probe.due("again 0", x.again(0), true);
        Probe.due("limit", x.gallery(0, 1), 5);
        Probe.due("there is no image 1", x.again(1), false);
    }

    static void p32_theTapeToo() {
        HueRash x = new HueRash();
        Probe.tape(x, "limit 5;");
        Probe.due("image", x.image(1), true);
        Probe.tape(x, "hue 1 1 1;hue");
        Probe.due("again", x.again(1), true);
        Probe.due("tape", x.end(9), -1);
        Probe.due("tape", x.end(8), 8);
        Probe.due("text", x.text(1, -1), 0);
        Probe.due("limit", x.gallery(0, 1), 5);
    }

    static void p32_aFullTapeToo() {
        HueRash x = fed(30);
        Probe.due("image", x.image(0), true);
        Probe.due("end", x.end(0), 0);
        Probe.due("again", x.again(0), true);
        Probe.due("full", blank(x), -1);
        Probe.due("end", x.end(600), 600);
    }

    static void p32_theFaultToo() {
        HueRash x = new HueRash();
        Probe.told(x, 1, "limit x;", -1);
        Probe.due("image", x.image(2), true);
        Probe.told(x, 1, "limit 1;", 0);
        Probe.due("fault", x.fault(0), 0);
        Probe.due("again", x.again(2), true);
        Probe.due("fault", x.fault(0), 1);
        Probe.due("place", x.fault(1), 6);
        Probe.due("count", x.count(1), 0);
    }

    static void p32_allTextsOfAllSorts() {
        HueRash x = Probe.world("hue 1 1 1;hue 2 1 1;like 1;likes 0 1 3;", "picture 0 1;limit 3;", "hour;", "calm 0 1;",
            "guest 0;");
        Probe.told(x, 0, "hue 9 9 9;", 1);
        Probe.told(x, 1, "picture 1 2;", 1);
        Probe.told(x, 2, "take 1;", 1);
        Probe.told(x, 3, "sneezed 3 4;", 1);
        Probe.told(x, 4, "guest 5;", 1);
        Probe.due("image", x.image(0), true);
        for (int sort = 0; sort < 5; sort++) {
            Probe.retold(x, sort, 0, "");
            Probe.retold(x, sort, 1, "");
        }
        Probe.due("again", x.again(0), true);
        Probe.due("hues", x.palette(0, 0), 2);
        Probe.due("likes", x.palette(0, 201), 3);
        Probe.due("strength", x.strength(0, 0, 1), 1);
        Probe.due("part", x.palette(1, 100), 9);
        Probe.due("limit", x.gallery(0, 1), 3);
        Probe.due("area", x.gallery(1, 20), 2);
        Probe.due("deed", x.deed(0, 0, 0), 5);
        Probe.due("deed", x.deed(1, 0, 0), 1);
        Probe.due("sneeze", x.sneeze(0, 0, 0), 0);
        Probe.due("sneeze", x.sneeze(1, 0, 2), 4);
        Probe.due("guest", x.guest(0, 0), 1);
        Probe.due("guest", x.guest(1, 0), 32);
        Probe.due("rows", x.rows(0, 0), 1);
    }

    static void p32_anImageIsAsItWasThen() {
        HueRash x = Probe.world(null, "limit 5;");
        Probe.due("image 0", x.image(0), true);
        Probe.retold(x, 1, 0, "limit 6;");
        Probe.due("image 1", x.image(1), true);
        Probe.retold(x, 1, 0, "limit 7;");
        Probe.due("again 0", x.again(0), true);
        Probe.due("limit", x.gallery(0, 1), 5);
        Probe.retold(x, 1, 0, "limit 8;");
        Probe.due("again 0 once more", x.again(0), true);
        Probe.due("limit", x.gallery(0, 1), 5);
        Probe.due("again 1", x.again(1), true);
        Probe.due("limit", x.gallery(0, 1), 6);
        Probe.due("image 0 anew", x.image(0), true);
        Probe.due("again 0", x.again(0), true);
        Probe.due("limit", x.gallery(0, 1), 6);
    }

    /** What makes them unlike: the limit that is told, the fault, its place, how long the tape is. */
    private static void standsFor(HueRash x, int k) {
        x.end(0);
        Probe.retold(x, 1, 0, "limit " + (20 + k) + ";");
        Probe.told(x, 0, k == 0 ? "hue 1 1 1;pair 0 1;" : k == 1 ? "cure  3 1;" : "su", -1);
        Probe.tape(x, "limit 7;".repeat(k + 1));
    }

    private static void isAsItStoodFor(HueRash x, int k) {
        Probe.due("limit of " + k, x.gallery(0, 1), 20 + k);
        Probe.due("fault of " + k, x.fault(0), k == 0 ? 4 : k == 1 ? 2 : 1);
        Probe.due("place of " + k, x.fault(1), k == 0 ? 19 : k == 1 ? 6 : 0);
        Probe.due("too much of " + k, x.end(8 * k + 9), -1);
        Probe.due("tape of " + k, x.end(8 * k + 8), 8 * k + 8);
    }

    static void p32_whatIsToldStays() {
        for (int k = 0; k < 3; k++) {
            HueRash x = Probe.world(null, "");
            standsFor(x, k);
            for (int image = -1; image < 4; image++) {
                Probe.due("image " + image, x.image(image), image >= 0 && image < 3);
                isAsItStoodFor(x, k);
            }
        }
    }

    static void p32_noImageTouchesAnother() {
        int[][] orders = {{0, 1, 2}, {0, 2, 1}, {1, 0, 2}, {1, 2, 0}, {2, 0, 1}, {2, 1, 0}};
        for (int[] order : orders) {
            HueRash x = Probe.world(null, "");
            for (int k : order) {
                standsFor(x, k);
                Probe.due("image " + k, x.image(k), true);
            }
            for (int[] back : orders) {
                for (int k : back) {
                    Probe.due("again " + k, x.again(k), true);
                    isAsItStoodFor(x, k);
                }
            }
            // one of them made anew, as another one is
            Probe.due("again", x.again(order[0]), true);
            Probe.due("image anew", x.image(order[2]), true);
            Probe.due("again", x.again(order[1]), true);
            isAsItStoodFor(x, order[1]);
            Probe.due("again", x.again(order[2]), true);
            isAsItStoodFor(x, order[0]);
            Probe.due("again", x.again(order[0]), true);
            isAsItStoodFor(x, order[0]);
        }
    }

    static void p33_noneSuch() {
        HueRash x = Probe.world(null, "limit 5;");
        for (int k : new int[] {-1, 0, 1, 2, 3, MIN, MAX}) {
            Probe.due("again " + k, x.again(k), false);
        }
        Probe.due("image 1", x.image(1), true);
        for (int k : new int[] {-1, 0, 2, 3, MIN, MAX}) {
            Probe.due("again " + k, x.again(k), false);
        }
        Probe.due("again 1", x.again(1), true);
    }

    static void p33_refusedAgainLeavesAll() {
        HueRash x = Probe.world(null, "limit 5;");
        Probe.told(x, 1, "limit 6;!", -1);
        Probe.tape(x, "limit 7;");
        Probe.due("again 0", x.again(0), false);
        Probe.due("again 3", x.again(3), false);
        Probe.due("limit", x.gallery(0, 1), 5);
        Probe.due("fault", x.fault(0), 1);
        Probe.due("place", x.fault(1), 8);
        Probe.due("text", x.text(1, -1), 1);
        Probe.due("limit", x.gallery(1, 1), 7);
    }

    static void p33_anEmptyImage() {
        HueRash x = new HueRash();
        Probe.due("image", x.image(0), true);
        for (int sort = 0; sort < 5; sort++) {
            Probe.told(x, sort, "", 0);
        }
        Probe.due("again", x.again(0), true);
        for (int sort = 0; sort < 5; sort++) {
            Probe.due("count", x.count(sort), 0);
        }
    }

    static void p33_imagesAreNotInImages() {
        HueRash x = new HueRash();
        Probe.due("image 0", x.image(0), true);
        Probe.told(x, 1, "limit 5;", 0);
        Probe.due("image 1", x.image(1), true);
        Probe.due("again 0", x.again(0), true);
        Probe.due("again 1", x.again(1), true);
        Probe.due("limit", x.gallery(0, 1), 5);
    }

    static void p33_keptAnswersGoWithTheTexts() {
        HueRash x = Probe.world("hue 0 0 0;hue 0 0 0;pair 0 1;", "picture 0 1;picture 1 1;", "", "calm 0 1;",
            "guest 0;guest 1;");
        Probe.due("image", x.image(0), true);
        Probe.due("rows", x.rows(0, 0), 0);
        Probe.due("loom", x.loom(0, 3), 0);
        Probe.due("flags", x.flags(0, -1), 0);
        Probe.retold(x, 0, 0, "hue 9 9 9;hue 0 0 0;");
        Probe.due("rows", x.rows(0, 0), 2);
        Probe.due("loom", x.loom(0, 3), 2);
        Probe.due("flags", x.flags(0, -1), 1);
        Probe.due("ways", x.ways(0, 0), 1);
        // of the sums all but 28 * 28 do not hold 27; no gap is calm, and each like is
        Probe.due("fits", x.fits(0, 0, -1, 0), 1540 - 28 * 28 + 3);
        Probe.due("again", x.again(0), true);
        Probe.due("rows", x.rows(0, 0), 0);
        Probe.due("loom", x.loom(0, 3), 0);
        Probe.due("flags", x.flags(0, -1), 0);
        Probe.due("ways", x.ways(0, 0), 0);
        // 55 sums begin with 0 and hold 0; each gap and each like is calm
        Probe.due("fits", x.fits(0, 0, -1, 0), 1540 - 55 + 27 + 3);
    }
}
