/** Promises 1 to 11, 25, 27, 31 to 33: the tape, the texts, their faults, what was told, images. */
public final class TextTest {
    private static final String LONG_BLANK = " ".repeat(20);

    public static void main(String[] args) {
        newObject();
        tape();
        slots();
        forms();
        paletteFaults();
        otherFaults();
        tooMany();
        toldPalette();
        toldOthers();
        images();
        Probe.finish("TextTest");
    }

    private static void newObject() {
        HueRash x = new HueRash();
        Probe.due("NONE", HueRash.NONE, -1);
        for (int sort = 0; sort < 5; sort++) {
            Probe.due("new count", x.count(sort), 0);
        }
        Probe.due("count -1", x.count(-1), -2);
        Probe.due("count 5", x.count(5), -2);
        Probe.due("count least", x.count(Integer.MIN_VALUE), -2);
        Probe.due("new fault", x.fault(0), 0);
        Probe.due("new place", x.fault(1), -1);
        Probe.due("fault 2", x.fault(2), -1);
        Probe.due("fault -1", x.fault(-1), -1);
        Probe.due("again 0", x.again(0), false);
        Probe.due("again 2", x.again(2), false);
        Probe.due("palette", x.palette(0, 0), -1);
        Probe.due("rule", x.rule(0, 0, 0), -2);
        Probe.due("strength", x.strength(0, 0, 0), -1);
        Probe.due("minds", x.minds(0, 0, 0, 0, 0), -1);
        Probe.due("gallery", x.gallery(0, 0), -1);
        Probe.due("deed", x.deed(0, -1, 0), -2);
        Probe.due("stop", x.stop(0, 0, 0), -1);
        Probe.due("state", x.state(0, 0, 0, 0, 0), -2);
        Probe.due("hung", x.hung(0, 0, 0), -2);
        Probe.due("rows", x.rows(0, 0), -1);
        Probe.due("row", x.row(0, 0, 0), -1);
        Probe.due("repainted", x.repainted(0, 0, 0), -1);
        Probe.due("loom", x.loom(0, 0), -1);
        Probe.due("thread", x.thread(0, 0, 0), -1);
        Probe.due("mix", x.mix(0, 0, 0, 0), -2);
        Probe.due("flags", x.flags(0, -1), -2);
        Probe.due("gain", x.gain(0, 0, 0), -1000);
        Probe.due("rest", x.rest(0, -1), -1);
        Probe.due("spread", x.spread(0, 0, true), -1);
        Probe.due("sneeze", x.sneeze(0, -1, 0), -2);
        Probe.due("fits", x.fits(0, 0, -1, 0), -2);
        Probe.due("guest", x.guest(0, -1), -2);
        Probe.due("ways", x.ways(0, 0), -1);
        Probe.due("dinner", x.dinner(0, 0, 0), -1);
        Probe.due("drawn", x.drawn(0, 0, 0, 0, 0), -1);
        Probe.due("tape is empty", x.end(0), 0);
        Probe.due("tape is empty", x.end(1), -1);
    }

    private static void tape() {
        HueRash x = new HueRash();
        for (int k = 1; k <= 30; k++) {
            Probe.due("feed", x.feed(0, -1, k, 1 << 31, 255), 20 * k);
        }
        Probe.due("feed full", x.feed(0, 0, 0, 0, 0), -1);
        Probe.due("end -1", x.end(-1), -1);
        Probe.due("end 601", x.end(601), -1);
        Probe.due("end 600", x.end(600), 600);
        Probe.due("end 581", x.end(581), 581);
        Probe.due("feed nearly full", x.feed(0, 0, 0, 0, 0), -1);
        Probe.due("nothing came", x.end(582), -1);
        Probe.due("end 580", x.end(580), 580);
        Probe.due("feed", x.feed(0, 0, 0, 0, 0), 600);
        Probe.due("end 0", x.end(0), 0);
        // "limit 7;" and blanks: of each number the highest byte first
        Probe.due("feed", x.feed(0x6c696d69, 0x7420373b, 0x20200a20, 0x20202020, 0x2020200a), 20);
        Probe.due("text", x.text(1, -1), 0);
        Probe.due("limit", x.gallery(0, 1), 7);
        Probe.due("tape is taken", x.end(1), -1);
    }

    private static void slots() {
        String[] texts = {"hue 1 2 3;", "limit 5;", "hour;", "calm 0 1;", "guest 3;"};
        for (int sort = 0; sort < 5; sort++) {
            HueRash x = new HueRash();
            Probe.tape(x, texts[sort]);
            Probe.due("in the place of none", x.text(sort, 0), -2);
            Probe.due("tape is empty", x.end(1), -1);
            Probe.told(x, sort, texts[sort], 0);
            Probe.due("place of none", x.text(sort, 1), -2);
            Probe.told(x, sort, "", 1);
            Probe.due("count", x.count(sort), 2);
            Probe.told(x, sort, "x", -2);
            Probe.due("fault", x.fault(0), 0);
            Probe.due("place", x.fault(1), -1);
            Probe.due("tape is empty", x.end(1), -1);
            Probe.tape(x, texts[sort]);
            Probe.due("in its place", x.text(sort, 1), 1);
            Probe.tape(x, "x");
            Probe.due("a fault", x.text(sort, 0), -1);
            Probe.due("fault", x.fault(0), 1);
            Probe.due("place", x.fault(1), 0);
            Probe.due("there is no 2", x.text(sort, 2), -2);
            Probe.due("fault is gone", x.fault(0), 0);
            Probe.due("place is gone", x.fault(1), -1);
            Probe.due("there is no -2", x.text(sort, -2), -2);
            Probe.due("count", x.count(sort), 2);
        }
        HueRash x = new HueRash();
        Probe.tape(x, "x");
        Probe.due("no such sort", x.text(5, -1), -2);
        Probe.due("tape is empty", x.end(1), -1);
        Probe.due("fault", x.fault(0), 0);
        Probe.due("no such sort", x.text(-1, -1), -2);
        Probe.due("no such sort", x.text(Integer.MAX_VALUE, 0), -2);
    }

    private static void forms() {
        for (int sort = 0; sort < 5; sort++) {
            Probe.faulty(sort, "", 0, -1);
            Probe.faulty(sort, " \n ", 0, -1);
            Probe.faulty(sort, ";", 1, 0);
            Probe.faulty(sort, " 1", 1, 1);
            Probe.faulty(sort, "wine 1;", 1, 0);
        }
        Probe.faulty(0, "hue 1 2 3", 1, 9);
        Probe.faulty(0, "hue 1 2 3 \n", 1, 11);
        Probe.faulty(0, "hue 1 2", 1, 7);
        Probe.faulty(0, "hue 1 2;", 1, 7);
        Probe.faulty(0, "hue 1 2 3 4;", 1, 10);
        Probe.faulty(0, "hue 1 2 003;", 1, 8);
        Probe.faulty(0, "hue 1 2 03;", 0, -1);
        Probe.faulty(0, "hue1\n2 3;hue 1 2 3 ; ", 0, -1);
        Probe.faulty(0, "hue 1\t2 3;", 1, 5);
        Probe.faulty(0, "hue 1 2 3;;", 1, 10);
        Probe.faulty(0, "hues 1 2 3;", 1, 0);
        Probe.faulty(0, "hu 1 2 3;", 1, 0);
        Probe.faulty(0, "Hue 1 2 3;", 1, 0);
        Probe.faulty(0, "hueX 1 2 3;", 1, 3);
        Probe.faulty(0, "hue 1 2 3;hour;", 1, 10);
        Probe.faulty(0, "like 1 2;", 1, 7);
        Probe.faulty(0, "likes 1 2;", 1, 9);
        Probe.faulty(0, "hue 1 2 3;\u00e9", 1, 10);
        Probe.faulty(0, "hue 1 2 3;\u0000", 1, 10);
        Probe.faulty(0, "hue 1 2 -3;", 1, 8);
        Probe.faulty(0, "hue 1 2 3" + LONG_BLANK + "4;", 1, 29);
        Probe.faulty(1, "picture 1;", 1, 9);
        Probe.faulty(1, "limit;", 1, 5);
        Probe.faulty(1, "limit 100;", 1, 6);
        Probe.faulty(1, "hue 1 2 3;", 1, 0);
        Probe.faulty(2, "hour 1;", 1, 5);
        Probe.faulty(2, "hour", 1, 4);
        Probe.faulty(2, "hang 1;", 1, 6);
        Probe.faulty(2, "take;", 1, 4);
        Probe.faulty(2, "leave 1 2;", 1, 8);
        Probe.faulty(3, "sneezed 1;", 1, 9);
        Probe.faulty(3, "calm 1 2 3;", 1, 9);
        Probe.faulty(4, "guest;", 1, 5);
        Probe.faulty(4, "guest ;", 1, 6);
        Probe.faulty(4, "guest 1 2 x;", 1, 10);
        Probe.faulty(4, "guest 1 2 333;", 1, 10);
        Probe.faulty(4, "guest 1 2", 1, 9);
        Probe.faulty(4, "guest 0 1 2 3 4 5 6 7 8 9;", 0, -1);
        // the form goes before all numbers
        Probe.faulty(0, "hue 10 2 3;x", 1, 11);
        Probe.faulty(4, "guest 1 1;!", 1, 10);
    }

    private static void paletteFaults() {
        Probe.faulty(0, "hue 10 0 0;", 2, 4);
        Probe.faulty(0, "hue 9 10 0;", 2, 6);
        Probe.faulty(0, "hue 9 9 10;", 2, 8);
        Probe.faulty(0, "hue 9 9 9;", 0, -1);
        Probe.faulty(0, "hue 0 0 0;hue 0 11 10;hue 99 0 0;", 2, 16);
        Probe.faulty(0, "sum 55 55;", 2, 4);
        Probe.faulty(0, "sum 54 54;", 0, -1);
        Probe.faulty(0, "sum 0 55;", 2, 6);
        Probe.faulty(0, "sum 5 4;", 2, 6);
        Probe.faulty(0, "sum 5 5;", 0, -1);
        Probe.faulty(0, "gap 3 1;", 2, 4);
        Probe.faulty(0, "gap 2 0;", 2, 6);
        Probe.faulty(0, "gap 2 10;", 2, 6);
        Probe.faulty(0, "gap 2 9;gap 0 1;", 0, -1);
        Probe.faulty(0, "gap 1 1;", 0, -1);
        Probe.faulty(0, "like 3;", 2, 5);
        Probe.faulty(0, "like 2;", 0, -1);
        Probe.faulty(0, "pair 1 1;", 2, 7);
        Probe.faulty(0, "pair 10 1;", 2, 5);
        Probe.faulty(0, "pair 10 10;", 2, 5);
        Probe.faulty(0, "pair 1 10;", 2, 7);
        Probe.faulty(0, "cure 3 1;", 2, 5);
        Probe.faulty(0, "cure 0 0;", 2, 7);
        Probe.faulty(0, "cure 0 19;", 2, 7);
        Probe.faulty(0, "cure 2 18;cure 2 1;", 0, -1);
        Probe.faulty(0, "cure 1 1;", 0, -1);
        Probe.faulty(0, "likes 2 0 0;", 2, 6);
        Probe.faulty(0, "likes 0 10 0;", 2, 8);
        Probe.faulty(0, "likes 0 0 10;", 2, 10);
        Probe.faulty(0, "hue 0 0 0;likes 1 0 9;", 0, -1);
        Probe.faulty(0, "likes 0 1 0;hue 0 0 0;", 4, 22);
        Probe.faulty(0, "likes 0 1 0;hue 0 0 0;hue 0 0 0;", 0, -1);
        Probe.faulty(0, "hue 0 0 0;pair 0 1; ", 4, 20);
        Probe.faulty(0, "hue 0 0 0;pair 1 0;", 4, 19);
        Probe.faulty(0, "pair 1 0;hue 0 0 0;hue 1 0 0;", 0, -1);
        Probe.faulty(0, "pair 0 9;hue 0 0 10;", 2, 17);
    }

    private static void otherFaults() {
        Probe.faulty(1, "picture 10 1;", 2, 8);
        Probe.faulty(1, "picture 9 0;", 2, 10);
        Probe.faulty(1, "picture 9 10;", 2, 10);
        Probe.faulty(1, "picture 0 1;picture 9 9;limit 99;limit 0;", 0, -1);
        Probe.faulty(2, "hang 9 0;", 2, 5);
        Probe.faulty(2, "hang 8 4;", 2, 7);
        Probe.faulty(2, "hang 8 3;", 0, -1);
        Probe.faulty(2, "take 9;", 2, 5);
        Probe.faulty(2, "take 8;", 0, -1);
        Probe.faulty(2, "wear 6 0;", 2, 5);
        Probe.faulty(2, "wear 5 10;", 2, 7);
        Probe.faulty(2, "wear 5 9;", 0, -1);
        Probe.faulty(2, "enter 6 0;", 2, 6);
        Probe.faulty(2, "enter 5 4;", 2, 8);
        Probe.faulty(2, "enter 5 3;", 0, -1);
        Probe.faulty(2, "leave 6;", 2, 6);
        Probe.faulty(2, "leave 5;", 0, -1);
        Probe.faulty(3, "calm 0 0;", 2, 7);
        Probe.faulty(3, "calm 10 0;", 2, 5);
        Probe.faulty(3, "calm 0 10;", 2, 7);
        Probe.faulty(3, "sneezed 9 9;", 2, 10);
        Probe.faulty(3, "sneezed 10 9;", 2, 8);
        Probe.faulty(3, "sneezed 9 10;", 2, 10);
        Probe.faulty(3, "sneezed 9 8;calm 0 9;", 0, -1);
        Probe.faulty(4, "guest 10;", 2, 6);
        Probe.faulty(4, "guest 9 9;", 2, 8);
        Probe.faulty(4, "guest 1 2 3 2 10;", 2, 12);
        Probe.faulty(4, "guest 1 10 1;", 2, 8);
        Probe.faulty(4, "guest 1;guest 1 12;", 2, 16);
    }

    private static void tooMany() {
        String tenHues = "hue 0 0 0;".repeat(10);
        Probe.faulty(0, tenHues, 0, -1);
        Probe.faulty(0, tenHues + "hue 0 0 0;", 3, 100);
        Probe.faulty(0, tenHues + "hue 10 0 0;", 3, 100);
        Probe.faulty(0, tenHues + "like 5;hue 10 0 0;", 2, 105);
        Probe.faulty(0, "hue 10 0 0;" + "hue 0 0 0;".repeat(10), 2, 4);
        Probe.faulty(0, tenHues + " hue 0 0 0;pair 0 0;", 3, 101);
        Probe.faulty(0, "like 0;like 1;like 2;gap 0 1;sum 0 0;cure 0 1;", 0, -1);
        Probe.faulty(0, "like 0;like 1;like 2;gap 0 1;sum 0 0;cure 0 1;cure 0 1;", 3, 46);
        Probe.faulty(0, "like 0;like 1;like 2;gap 0 1;sum 0 0;cure 0 1;pair 7 8;", 3, 46);
        Probe.faulty(0, "like 0;".repeat(6) + "hue 0 0 0;likes 0 0 1;likes 0 0 2;", 0, -1);
        Probe.faulty(1, "picture 0 1;".repeat(9) + "limit 1;limit 2;", 0, -1);
        Probe.faulty(1, "picture 0 1;".repeat(10), 3, 108);
        Probe.faulty(2, "hour;".repeat(40), 0, -1);
        Probe.faulty(2, "hour;".repeat(41), 3, 200);
        Probe.faulty(2, "hour;".repeat(39) + "hang 0 0;take 9;", 3, 204);
        Probe.faulty(3, "calm 0 1;".repeat(12), 0, -1);
        Probe.faulty(3, "calm 0 1;".repeat(12) + "sneezed 0 1;", 3, 108);
        Probe.faulty(4, "guest 0;".repeat(8), 0, -1);
        Probe.faulty(4, "guest 0;".repeat(9), 3, 64);
        Probe.faulty(2, "hour;".repeat(120), 3, 200);
        Probe.faulty(2, "hour;".repeat(119) + "hourX", 1, 599);
    }

    private static void toldPalette() {
        HueRash x = new HueRash();
        Probe.told(x, 0, "sum 3 40;hue 1 2 3;gap 1 4;hue 4 5 06;like 2;pair 1 0;cure 0 18;likes 0 1 6;"
            + "likes 1 0 4;likes 0 1 7;", 0);
        Probe.due("hues", x.palette(0, 0), 2);
        Probe.due("rules", x.palette(0, 1), 5);
        int[] parts = {1, 2, 3, 4, 5, 6};
        for (int k = 0; k < 6; k++) {
            Probe.due("part", x.palette(0, 100 + 10 * (k / 3) + k % 3), parts[k]);
        }
        for (int what : new int[] {5, 99, 103, 109, 113, 120, 190, 199, 202, 212, 220, 221, 230, -1,
            Integer.MIN_VALUE, Integer.MAX_VALUE}) {
            Probe.due("palette " + what, x.palette(0, what), -1);
        }
        Probe.due("likes 0 0", x.palette(0, 200), 0);
        Probe.due("likes 0 1", x.palette(0, 201), 7);
        Probe.due("likes 1 0", x.palette(0, 210), 4);
        Probe.due("likes 1 1", x.palette(0, 211), 0);
        int[][] rules = {{0, 3, 40}, {1, 1, 4}, {2, 2, -1}, {3, 1, 0}, {4, 0, 18}};
        for (int k = 0; k < 5; k++) {
            for (int what = 0; what < 3; what++) {
                Probe.due("rule " + k + " " + what, x.rule(0, k, what), rules[k][what]);
            }
            Probe.due("rule 3", x.rule(0, k, 3), -2);
            Probe.due("rule -1", x.rule(0, k, -1), -2);
        }
        Probe.due("rule 5", x.rule(0, 5, 0), -2);
        Probe.due("rule -1", x.rule(0, -1, 0), -2);
        Probe.due("palette 1", x.palette(1, 0), -1);
        Probe.due("palette -1", x.palette(-1, 0), -1);
        Probe.due("rule of 1", x.rule(1, 0, 0), -2);
        // in its place: nothing of the old one is left
        Probe.tape(x, "hue 9 9 9;");
        Probe.due("text", x.text(0, 0), 0);
        Probe.due("hues", x.palette(0, 0), 1);
        Probe.due("rules", x.palette(0, 1), 0);
        Probe.due("likes", x.palette(0, 210), 0);
        Probe.due("hue 1", x.palette(0, 110), -1);
        // a fault changes nothing
        Probe.tape(x, "hue 1 1 1;hue 1 1 1;hue 1 1 10;");
        Probe.due("text", x.text(0, 0), -1);
        Probe.due("hues", x.palette(0, 0), 1);
        Probe.due("part", x.palette(0, 100), 9);
    }

    private static void toldOthers() {
        HueRash x = new HueRash();
        Probe.told(x, 1, "", 0);
        Probe.due("usual limit", x.gallery(0, 1), 10);
        Probe.told(x, 1, "limit 3;picture 9 1;limit 04;picture 0 9;", 1);
        int[][] due = {{0, 2}, {1, 4}, {10, 9}, {11, 0}, {12, -1}, {20, 1}, {21, 9}, {22, -1}, {2, -1}, {9, -1},
            {19, -1}, {30, -1}, {-1, -1}, {Integer.MAX_VALUE, -1}, {Integer.MIN_VALUE, -1}};
        for (int[] d : due) {
            Probe.due("gallery " + d[0], x.gallery(1, d[0]), d[1]);
        }
        Probe.due("gallery 2", x.gallery(2, 0), -1);
        Probe.due("gallery -1", x.gallery(-1, 0), -1);
        Probe.told(x, 2, "hang 8 3;take 7;wear 5 9;enter 4 2;leave 3;hour;", 0);
        int[][] deeds = {{0, 8, 3}, {1, 7, -1}, {2, 5, 9}, {3, 4, 2}, {4, 3, -1}, {5, -1, -1}};
        for (int k = 0; k < 6; k++) {
            for (int what = 0; what < 3; what++) {
                Probe.due("deed " + k + " " + what, x.deed(0, k, what), deeds[k][what]);
            }
            Probe.due("deed 3", x.deed(0, k, 3), -2);
            Probe.due("deed -1", x.deed(0, k, -1), -2);
        }
        Probe.due("deeds", x.deed(0, -1, 0), 6);
        Probe.due("deeds what 1", x.deed(0, -1, 1), -2);
        Probe.due("deed 6", x.deed(0, 6, 0), -2);
        Probe.due("deed -2", x.deed(0, -2, 0), -2);
        Probe.due("day 1", x.deed(1, -1, 0), -2);
        Probe.told(x, 3, "sneezed 3 1;calm 0 9;", 0);
        int[][] sneezes = {{1, 3, 1}, {0, 0, 9}};
        for (int k = 0; k < 2; k++) {
            for (int what = 0; what < 3; what++) {
                Probe.due("sneeze " + k + " " + what, x.sneeze(0, k, what), sneezes[k][what]);
            }
            Probe.due("sneeze 3", x.sneeze(0, k, 3), -2);
        }
        Probe.due("sneezes", x.sneeze(0, -1, 0), 2);
        Probe.due("sneezes what 2", x.sneeze(0, -1, 2), -2);
        Probe.due("sneeze 2", x.sneeze(0, 2, 0), -2);
        Probe.due("sight 1", x.sneeze(1, -1, 0), -2);
        Probe.told(x, 4, "guest 3 0 9;guest 1;", 0);
        Probe.due("guests", x.guest(0, -1), 2);
        Probe.due("guest 0", x.guest(0, 0), 521);
        Probe.due("guest 1", x.guest(0, 1), 2);
        Probe.due("guest 2", x.guest(0, 2), -2);
        Probe.due("guest -2", x.guest(0, -2), -2);
        Probe.due("dinner 1", x.guest(1, -1), -2);
        Probe.due("dinner -1", x.guest(-1, 0), -2);
    }

    private static void images() {
        HueRash x = new HueRash();
        Probe.due("image -1", x.image(-1), false);
        Probe.due("image 3", x.image(3), false);
        Probe.due("image 2", x.image(2), true);
        Probe.told(x, 0, "hue 1 2 3;hue 4 4 4;like 0;", 0);
        Probe.told(x, 1, "picture 0 3;", 0);
        Probe.told(x, 2, "hour;", 0);
        Probe.told(x, 3, "calm 0 1;", 0);
        Probe.told(x, 4, "guest 0;", 0);
        Probe.told(x, 2, "hour;hours;", -1);
        Probe.tape(x, "hue 8 8 8;hue 8 8 7;gap 2 1;");
        Probe.due("image 0", x.image(0), true);
        Probe.due("strength", x.strength(0, 0, 1), 0);
        Probe.due("text", x.text(0, 0), 0);
        Probe.due("strength", x.strength(0, 0, 1), 1);
        Probe.due("dot", x.palette(0, 4), -1);
        Probe.due("loom", x.loom(0, 3), 0);
        Probe.due("flags", x.flags(0, -1), 0);
        // 48 * 8 sums hold 47, one gap and two likes hold
        Probe.due("fits", x.fits(0, 0, -1, 0), 1540 - 384 + 26 + 1);
        Probe.due("fault", x.fault(0), 0);
        Probe.due("again 1", x.again(1), false);
        Probe.due("again 3", x.again(3), false);
        Probe.due("again -1", x.again(-1), false);
        Probe.due("again 0", x.again(0), true);
        Probe.due("strength", x.strength(0, 0, 1), 0);
        Probe.due("loom", x.loom(0, 3), 2);
        Probe.due("flags", x.flags(0, -1), 1);
        // 19 * 37 sums hold 18, six gaps and no like hold
        Probe.due("fits", x.fits(0, 0, -1, 0), 1540 - 703 + 21 + 3);
        Probe.due("part", x.palette(0, 100), 1);
        Probe.due("fault", x.fault(0), 1);
        Probe.due("place", x.fault(1), 5);
        Probe.due("tape", x.end(28), 28);
        Probe.due("tape", x.end(29), -1);
        Probe.due("text", x.text(0, -1), 1);
        Probe.due("strength", x.strength(1, 0, 1), 1);
        Probe.due("again 2", x.again(2), true);
        for (int sort = 0; sort < 5; sort++) {
            Probe.due("count", x.count(sort), 0);
        }
        Probe.due("tape", x.end(1), -1);
        Probe.due("again 0 once more", x.again(0), true);
        Probe.due("count", x.count(4), 1);
        Probe.due("count", x.count(0), 1);
        Probe.due("tape", x.end(28), 28);
        Probe.due("image 0 anew", x.image(0), true);
        // the bytes of the tape are in the image, too, and those of the image do not change any more
        Probe.tape(x, "limit 77;limit 78;limit 79;");
        Probe.due("image 1", x.image(1), true);
        Probe.tape(x, "hour;hour;hour;hour;hour;hour;");
        Probe.due("again 1", x.again(1), true);
        Probe.due("text", x.text(1, 0), 0);
        Probe.due("limit", x.gallery(0, 1), 79);
        Probe.due("again 0", x.again(0), true);
        Probe.due("text", x.text(0, 0), 0);
        Probe.due("strength", x.strength(0, 0, 1), 1);
        Probe.due("limit", x.gallery(0, 1), 10);
    }
}
