import java.util.ArrayList;
import java.util.Arrays;
import java.util.List;
import java.util.TreeSet;

/** The document once more, by plain search and lists, to hold the class against. */
final class PlainHues {
    static final int NONE = -1;

    static final class Pal implements Cloneable {
        List<int[]> hues = new ArrayList<>();
        List<int[]> rules = new ArrayList<>();
        int[][] likes = new int[2][10];
        TreeSet<Integer> named = new TreeSet<>();
    }

    static final class Gal {
        List<int[]> pictures = new ArrayList<>();
        int limit = 10;
    }

    static final class Rows {
        List<int[]> lines = new ArrayList<>();
    }

    static final class State {
        List<Integer> tape = new ArrayList<>();
        int fault;
        int place = NONE;
        List<List<Object>> texts = new ArrayList<>();

        State() {
            for (int k = 0; k < 5; k++) {
                texts.add(new ArrayList<>());
            }
        }

        State copy() {
            State s = new State();
            s.tape.addAll(tape);
            s.fault = fault;
            s.place = place;
            for (int k = 0; k < 5; k++) {
                s.texts.get(k).addAll(texts.get(k));
            }
            return s;
        }
    }

    private State now = new State();
    private final State[] images = new State[3];

    int feed(int a, int b, int c, int d, int e) {
        if (now.tape.size() > 580) {
            return NONE;
        }
        for (int n : new int[] {a, b, c, d, e}) {
            now.tape.add(n >> 24 & 255);
            now.tape.add(n >> 16 & 255);
            now.tape.add(n >> 8 & 255);
            now.tape.add(n & 255);
        }
        return now.tape.size();
    }

    int end(int n) {
        if (n < 0 || n > now.tape.size()) {
            return NONE;
        }
        now.tape = new ArrayList<>(now.tape.subList(0, n));
        return n;
    }

    // ---- texts ----

    private static final String[][] FORMS = {
        {"hue 0-9 0-9 0-9", "sum 0-54 0-54", "gap 0-2 1-9", "like 0-2", "pair 0-9 0-9", "cure 0-2 1-18",
            "likes 0-1 0-9 0-9"},
        {"picture 0-9 1-9", "limit 0-99"},
        {"hang 0-8 0-3", "take 0-8", "wear 0-5 0-9", "enter 0-5 0-3", "leave 0-5", "hour"},
        {"sneezed 0-9 0-9", "calm 0-9 0-9"},
        {"guest 0-9 *"},
    };

    private static String formOf(int sort, String word) {
        for (String form : FORMS[sort]) {
            if (form.split(" ")[0].equals(word)) {
                return form;
            }
        }
        return null;
    }

    /** Tokens as {text, place}; a token "?" can't be one; the last one is "" at the end. */
    private static List<Object[]> tokens(String tape) {
        List<Object[]> all = new ArrayList<>();
        java.util.regex.Matcher m =
            java.util.regex.Pattern.compile("[a-z]+|[0-9]+|;|[^a-z0-9; \n]", java.util.regex.Pattern.DOTALL).matcher(tape);
        while (m.find()) {
            String t = m.group();
            boolean strange = !t.matches("[a-z]+|[0-9]{1,2}|;");
            all.add(new Object[] {strange ? "?" : t, m.start()});
        }
        all.add(new Object[] {"", tape.length()});
        return all;
    }

    int text(int sort, int at) {
        StringBuilder b = new StringBuilder();
        for (int v : now.tape) {
            b.append((char) v);
        }
        now.tape = new ArrayList<>();
        now.fault = 0;
        now.place = NONE;
        if (sort < 0 || sort > 4) {
            return -2;
        }
        List<Object> there = now.texts.get(sort);
        if (at == NONE ? there.size() >= 2 : at < 0 || at >= there.size()) {
            return -2;
        }
        List<List<Object[]>> lines = new ArrayList<>();
        int bad = form(sort, tokens(b.toString()), lines);
        if (bad != NONE) {
            now.fault = 1;
            now.place = bad;
            return NONE;
        }
        TreeSet<Integer> faults = new TreeSet<>(); // place * 10 + fault
        Object made = build(sort, lines, faults);
        if (faults.isEmpty() && made instanceof Pal p) {
            for (int h : p.named) {
                if (h >= p.hues.size()) {
                    faults.add(b.length() * 10 + 4);
                }
            }
        }
        if (!faults.isEmpty()) {
            now.fault = faults.first() % 10;
            now.place = faults.first() / 10;
            return NONE;
        }
        if (at == NONE) {
            there.add(made);
            return there.size() - 1;
        }
        there.set(at, made);
        return at;
    }

    private static int form(int sort, List<Object[]> tokens, List<List<Object[]>> lines) {
        int i = 0;
        while (!tokens.get(i)[0].equals("")) {
            List<Object[]> line = new ArrayList<>();
            String form = formOf(sort, (String) tokens.get(i)[0]);
            if (form == null) {
                return (int) tokens.get(i)[1];
            }
            line.add(tokens.get(i));
            i++;
            String[] wants = form.split(" ");
            for (int w = 1; w < wants.length; w++) {
                if (wants[w].equals("*")) {
                    while (((String) tokens.get(i)[0]).matches("[0-9]+")) {
                        line.add(tokens.get(i++));
                    }
                } else if (((String) tokens.get(i)[0]).matches("[0-9]+")) {
                    line.add(tokens.get(i++));
                } else {
                    return (int) tokens.get(i)[1];
                }
            }
            if (!tokens.get(i)[0].equals(";")) {
                return (int) tokens.get(i)[1];
            }
            i++;
            lines.add(line);
        }
        return NONE;
    }

    private static Object build(int sort, List<List<Object[]>> lines, TreeSet<Integer> faults) {
        Pal pal = new Pal();
        Gal gal = new Gal();
        Rows rows = new Rows();
        for (List<Object[]> line : lines) {
            String word = (String) line.get(0)[0];
            int place = (int) line.get(0)[1];
            String[] wants = formOf(sort, word).split(" ");
            int[] n = new int[line.size() - 1];
            for (int k = 0; k < n.length; k++) {
                n[k] = Integer.parseInt((String) line.get(k + 1)[0]);
                int p = (int) line.get(k + 1)[1];
                String[] range = (word.equals("guest") ? "0-9" : wants[k + 1]).split("-");
                boolean wrong = n[k] < Integer.parseInt(range[0]) || n[k] > Integer.parseInt(range[1]);
                wrong |= word.equals("sum") && k == 1 && n[1] < n[0];
                wrong |= (word.equals("pair") || sort == 3) && k == 1 && n[1] == n[0];
                for (int j = 0; sort == 4 && j < k; j++) {
                    wrong |= n[j] == n[k];
                }
                if (wrong) {
                    faults.add(p * 10 + 2);
                }
            }
            int full = 0;
            switch (word) {
                case "hue" -> {
                    pal.hues.add(n);
                    full = pal.hues.size() - 10;
                }
                case "likes" -> {
                    if (faults.isEmpty()) {
                        pal.likes[n[0]][n[1]] = n[2];
                    }
                    pal.named.add(n[1]);
                }
                case "limit" -> gal.limit = n[0];
                case "picture" -> {
                    gal.pictures.add(n);
                    full = gal.pictures.size() - 9;
                }
                default -> {
                    if (sort == 0) {
                        int[] r = {List.of("sum", "gap", "like", "pair", "cure").indexOf(word), n[0],
                            n.length > 1 ? n[1] : NONE};
                        pal.rules.add(r);
                        full = pal.rules.size() - 6;
                        if (word.equals("pair")) {
                            pal.named.add(n[0]);
                            pal.named.add(n[1]);
                        }
                    } else if (sort == 2) {
                        rows.lines.add(new int[] {
                            List.of("hang", "take", "wear", "enter", "leave", "hour").indexOf(word),
                            n.length > 0 ? n[0] : NONE, n.length > 1 ? n[1] : NONE});
                        full = rows.lines.size() - 40;
                    } else if (sort == 3) {
                        rows.lines.add(new int[] {word.equals("sneezed") ? 1 : 0, n[0], n[1]});
                        full = rows.lines.size() - 12;
                    } else {
                        int[] sorted = n.clone();
                        Arrays.sort(sorted);
                        rows.lines.add(sorted);
                        full = rows.lines.size() - 8;
                    }
                }
            }
            if (full > 0) {
                faults.add(place * 10 + 3);
            }
        }
        return sort == 0 ? pal : sort == 1 ? gal : rows;
    }

    int fault(int what) {
        return what == 0 ? now.fault : what == 1 ? now.place : NONE;
    }

    private <T> T get(int sort, int k, Class<T> c) {
        List<Object> l = now.texts.get(sort);
        return k < 0 || k >= l.size() ? null : c.cast(l.get(k));
    }

    private Pal pal(int k) {
        return get(0, k, Pal.class);
    }

    // ---- clashes ----

    /** a, b: hue numbers or NONE; pa, pb: parts. */
    private static int strength(Pal p, int a, int b, int[] pa, int[] pb) {
        if (a == b && a != NONE) {
            return 0;
        }
        int held = 0;
        for (int[] r : p.rules) {
            switch (r[0]) {
                case 0 -> {
                    int s = Arrays.stream(pa).sum() + Arrays.stream(pb).sum();
                    if (r[1] <= s && s <= r[2]) {
                        held++;
                    }
                }
                case 1 -> held += Math.abs(pa[r[1]] - pb[r[1]]) >= r[2] ? 1 : 0;
                case 2 -> held += pa[r[1]] == pb[r[1]] && pa[r[1]] > 0 ? 1 : 0;
                case 3 -> held += a == r[1] && b == r[2] || a == r[2] && b == r[1] ? 1 : 0;
                default -> {
                    if (pa[r[1]] + pb[r[1]] >= r[2]) {
                        return 0;
                    }
                }
            }
        }
        return held;
    }

    private static int st(Pal p, int a, int b) {
        return strength(p, a, b, p.hues.get(a), p.hues.get(b));
    }

    private static boolean cl(Pal p, int a, int b) {
        return st(p, a, b) > 0;
    }

    private static int[] colour(int n) {
        return new int[] {n / 100, n / 10 % 10, n % 10};
    }

    private static boolean clColour(Pal p, int hue, int colour) {
        return strength(p, hue, NONE, p.hues.get(hue), colour(colour)) > 0;
    }

    int palette(int k, int what) {
        Pal p = pal(k);
        if (p == null) {
            return NONE;
        }
        int n = p.hues.size();
        int[] foes = new int[n];
        for (int a = 0; a < n; a++) {
            for (int b = 0; b < n; b++) {
                foes[a] += cl(p, a, b) ? 1 : 0;
            }
        }
        if (what == 0) {
            return n;
        }
        if (what == 1) {
            return p.rules.size();
        }
        if (what == 2) {
            int set = 0;
            for (int a = 0; a < n; a++) {
                set += foes[a] == 0 ? 1 << a : 0;
            }
            return set;
        }
        if (what == 3) {
            int best = NONE;
            for (int a = n - 1; a >= 0; a--) {
                if (best == NONE || foes[a] >= foes[best]) {
                    best = a;
                }
            }
            return best;
        }
        if (what == 4) {
            for (int s = 0; s <= 27; s++) {
                for (int c = 0; c < 1000; c++) {
                    boolean fine = Arrays.stream(colour(c)).sum() == s;
                    for (int a = 0; fine && a < n; a++) {
                        fine = !clColour(p, a, c);
                    }
                    if (fine) {
                        return c;
                    }
                }
            }
            return NONE;
        }
        for (int h = 0; h < n; h++) {
            for (int q = 0; q < 3; q++) {
                if (what == 100 + 10 * h + q) {
                    return p.hues.get(h)[q];
                }
            }
            for (int w = 0; w < 2; w++) {
                if (what == 200 + 10 * w + h) {
                    return p.likes[w][h];
                }
            }
        }
        return NONE;
    }

    int rule(int palette, int k, int what) {
        Pal p = pal(palette);
        if (p == null || k < 0 || k >= p.rules.size() || what < 0 || what > 2) {
            return -2;
        }
        return p.rules.get(k)[what];
    }

    int strength(int palette, int a, int b) {
        Pal p = pal(palette);
        return p == null || !in(p, a) || !in(p, b) ? NONE : st(p, a, b);
    }

    private static boolean in(Pal p, int h) {
        return h >= 0 && h < p.hues.size();
    }

    int minds(int palette, int hue, int r, int y, int b) {
        Pal p = pal(palette);
        if (p == null || !in(p, hue) || Math.min(r, Math.min(y, b)) < 0 || Math.max(r, Math.max(y, b)) > 9) {
            return NONE;
        }
        return strength(p, hue, NONE, p.hues.get(hue), new int[] {r, y, b});
    }

    int gallery(int gallery, int what) {
        Gal g = get(1, gallery, Gal.class);
        if (g == null) {
            return NONE;
        }
        if (what == 0) {
            return g.pictures.size();
        }
        if (what == 1) {
            return g.limit;
        }
        for (int k = 0; k < g.pictures.size(); k++) {
            if (what == 10 + k || what == 20 + k) {
                return g.pictures.get(k)[what / 10 - 1];
            }
        }
        return NONE;
    }

    private int line(int sort, int n, int k, int what) {
        Rows r = get(sort, n, Rows.class);
        if (r == null) {
            return -2;
        }
        if (k == NONE && what == 0) {
            return r.lines.size();
        }
        if (k < 0 || k >= r.lines.size() || what < 0 || what > 2) {
            return -2;
        }
        return r.lines.get(k)[what];
    }

    int deed(int day, int k, int what) {
        return line(2, day, k, what);
    }

    // ---- days ----

    static final class Place {
        int[] hangs = new int[9];
        int[] areas = new int[9];
        int[] where = new int[6];
        int[] on = new int[6];
        int[] sneezes = new int[6];
        int hours;
        int rash;
        int badHour = NONE;
        int badRoom = NONE;
    }

    private static boolean suits(Pal p, Gal g) {
        return p != null && g != null && g.pictures.stream().allMatch(x -> x[0] < p.hues.size());
    }

    private static List<int[]> things(Gal g, Place s, int room) {
        List<int[]> t = new ArrayList<>();
        for (int k = 0; k < g.pictures.size(); k++) {
            if (s.hangs[k] == room && s.areas[k] > 0) {
                t.add(new int[] {g.pictures.get(k)[0], k});
            }
        }
        for (int q = 0; q < 6; q++) {
            if (s.where[q] == room && s.on[q] != NONE) {
                t.add(new int[] {s.on[q], 100});
            }
        }
        return t;
    }

    private static int rash(Pal p, List<int[]> t) {
        int twice = 0;
        for (int i = 0; i < t.size(); i++) {
            for (int j = 0; j < t.size(); j++) {
                twice += i == j ? 0 : st(p, t.get(i)[0], t.get(j)[0]);
            }
        }
        return twice / 2;
    }

    private static boolean step(Pal p, Gal g, Place s, int[] d) {
        int pics = g.pictures.size();
        switch (d[0]) {
            case 0:
                if (d[1] >= pics || s.hangs[d[1]] != NONE) {
                    return false;
                }
                s.hangs[d[1]] = d[2];
                return true;
            case 1:
                if (d[1] >= pics || s.hangs[d[1]] == NONE) {
                    return false;
                }
                s.hangs[d[1]] = NONE;
                return true;
            case 2:
                if (d[2] >= p.hues.size()) {
                    return false;
                }
                s.on[d[1]] = d[2];
                return true;
            case 3:
                if (s.where[d[1]] != NONE) {
                    return false;
                }
                s.where[d[1]] = d[2];
                return true;
            case 4:
                if (s.where[d[1]] == NONE) {
                    return false;
                }
                s.where[d[1]] = NONE;
                return true;
            default:
                int[] fades = new int[9];
                for (int room = 3; room >= 0; room--) {
                    List<int[]> t = things(g, s, room);
                    int r = rash(p, t);
                    s.rash += r;
                    for (int q = 0; q < 6; q++) {
                        s.sneezes[q] += s.where[q] == room ? r : 0;
                    }
                    if (r > g.limit && (s.badHour == NONE || s.badHour == s.hours)) {
                        s.badHour = s.hours;
                        s.badRoom = room;
                    }
                    for (int[] x : t) {
                        for (int[] y : t) {
                            if (x[1] < 9 && cl(p, x[0], y[0])) {
                                fades[x[1]] = 1;
                            }
                        }
                    }
                }
                for (int k = 0; k < 9; k++) {
                    s.areas[k] -= fades[k];
                }
                s.hours++;
                return true;
        }
    }

    private static Place walk(Pal p, Gal g, Rows d, int n) {
        Place s = new Place();
        Arrays.fill(s.hangs, NONE);
        Arrays.fill(s.where, NONE);
        Arrays.fill(s.on, NONE);
        for (int k = 0; k < g.pictures.size(); k++) {
            s.areas[k] = g.pictures.get(k)[1];
        }
        for (int k = 0; k < n; k++) {
            if (k >= d.lines.size() || !step(p, g, s, d.lines.get(k))) {
                return null;
            }
        }
        return s;
    }

    int stop(int palette, int gallery, int day) {
        Pal p = pal(palette);
        Gal g = get(1, gallery, Gal.class);
        Rows d = get(2, day, Rows.class);
        if (d == null || !suits(p, g)) {
            return NONE;
        }
        int n = 0;
        while (walk(p, g, d, n + 1) != null) {
            n++;
        }
        return n;
    }

    int state(int palette, int gallery, int day, int n, int what) {
        Pal p = pal(palette);
        Gal g = get(1, gallery, Gal.class);
        Rows d = get(2, day, Rows.class);
        if (d == null || !suits(p, g) || n < 0) {
            return -2;
        }
        Place s = walk(p, g, d, n);
        if (s == null) {
            return -2;
        }
        if (what >= 0 && what <= 3) {
            return new int[] {s.hours, s.rash, s.badHour, s.badRoom}[what];
        }
        for (int k = 0; k < g.pictures.size(); k++) {
            if (what == 10 + k) {
                return s.hangs[k];
            }
            if (what == 20 + k) {
                return s.areas[k];
            }
        }
        for (int q = 0; q < 6; q++) {
            if (what == 30 + q) {
                return s.where[q];
            }
            if (what == 40 + q) {
                return s.on[q];
            }
            if (what == 50 + q) {
                return s.sneezes[q];
            }
        }
        return what >= 60 && what <= 63 ? rash(p, things(g, s, what - 60)) : -2;
    }

    // ---- walls ----

    private static boolean quiet(Pal p, Gal g, int set) {
        for (int i = 0; i < g.pictures.size(); i++) {
            for (int j = 0; j < i; j++) {
                if ((set >> i & 1) == 1 && (set >> j & 1) == 1 && cl(p, g.pictures.get(i)[0], g.pictures.get(j)[0])) {
                    return false;
                }
            }
        }
        return true;
    }

    private static boolean loud(Pal p, Gal g, int set) {
        for (int i = 0; i < g.pictures.size(); i++) {
            for (int j = 0; j < i; j++) {
                if ((set >> i & 1) == 1 && (set >> j & 1) == 1 && !cl(p, g.pictures.get(i)[0], g.pictures.get(j)[0])) {
                    return false;
                }
            }
        }
        return true;
    }

    private static boolean paintable(Pal p, Gal g, int[] room, int k, int rooms) {
        if (k == g.pictures.size()) {
            return true;
        }
        for (int r = 0; r < rooms; r++) {
            boolean fine = true;
            for (int j = 0; j < k; j++) {
                fine &= room[j] != r || !cl(p, g.pictures.get(k)[0], g.pictures.get(j)[0]);
            }
            room[k] = r;
            if (fine && paintable(p, g, room, k + 1, rooms)) {
                return true;
            }
        }
        return false;
    }

    int hung(int palette, int gallery, int what) {
        Pal p = pal(palette);
        Gal g = get(1, gallery, Gal.class);
        if (!suits(p, g)) {
            return -2;
        }
        int n = g.pictures.size();
        switch (what) {
            case 0: {
                int rooms = 0;
                while (!paintable(p, g, new int[n], 0, rooms)) {
                    rooms++;
                }
                return rooms;
            }
            case 1: {
                int best = 0;
                for (int set = (1 << n) - 1; set >= 0; set--) {
                    if (loud(p, g, set) && Integer.bitCount(set) >= Integer.bitCount(best)) {
                        best = set;
                    }
                }
                return best;
            }
            case 2: {
                int best = (1 << n) - 1;
                for (int hid = (1 << n) - 1; hid >= 0; hid--) {
                    if (quiet(p, g, (1 << n) - 1 - hid) && Integer.bitCount(hid) <= Integer.bitCount(best)) {
                        best = hid;
                    }
                }
                return best;
            }
            case 3: {
                int best = NONE;
                int most = 0;
                for (int i = n - 1; i >= 0; i--) {
                    int sum = 0;
                    for (int j = 0; j < n; j++) {
                        sum += st(p, g.pictures.get(i)[0], g.pictures.get(j)[0]);
                    }
                    if (sum >= most) {
                        most = sum;
                        best = i;
                    }
                }
                return best;
            }
            case 4: {
                List<int[]> t = new ArrayList<>();
                for (int[] x : g.pictures) {
                    t.add(new int[] {x[0], 0});
                }
                return rash(p, t);
            }
            default:
                return -2;
        }
    }

    private int[] firstOrder;

    private long orders(Pal p, int[] hues, int[] order, int k, int used) {
        if (k == hues.length) {
            if (firstOrder == null) {
                firstOrder = order.clone();
            }
            return 1;
        }
        long sum = 0;
        for (int i = 0; i < hues.length; i++) {
            if ((used >> i & 1) == 0 && (k == 0 || !cl(p, hues[order[k - 1]], hues[i]))) {
                order[k] = i;
                sum += orders(p, hues, order, k + 1, used | 1 << i);
            }
        }
        return sum;
    }

    private long orders(Pal p, int[] hues) {
        firstOrder = null;
        return orders(p, hues, new int[hues.length], 0, 0);
    }

    private static int[] huesOf(Gal g) {
        return g.pictures.stream().mapToInt(x -> x[0]).toArray();
    }

    long rows(int palette, int gallery) {
        Pal p = pal(palette);
        Gal g = get(1, gallery, Gal.class);
        return suits(p, g) ? orders(p, huesOf(g)) : NONE;
    }

    int row(int palette, int gallery, int k) {
        Pal p = pal(palette);
        Gal g = get(1, gallery, Gal.class);
        if (!suits(p, g) || orders(p, huesOf(g)) == 0 || k < 0 || k >= g.pictures.size()) {
            return NONE;
        }
        return firstOrder[k];
    }

    private int bestCost;
    private int[] bestRow;

    private void repaint(Pal p, Gal g, int[] row, int k, int cost) {
        if (bestRow != null && cost >= bestCost) {
            return;
        }
        if (k == row.length) {
            bestCost = cost;
            bestRow = row.clone();
            return;
        }
        for (int h = 0; h < p.hues.size(); h++) {
            if (k > 0 && cl(p, row[k - 1], h)) {
                continue;
            }
            int[] was = p.hues.get(g.pictures.get(k)[0]);
            int[] is = p.hues.get(h);
            int diff = Math.abs(was[0] - is[0]) + Math.abs(was[1] - is[1]) + Math.abs(was[2] - is[2]);
            row[k] = h;
            repaint(p, g, row, k + 1, cost + diff * g.pictures.get(k)[1]);
        }
    }

    int repainted(int palette, int gallery, int what) {
        Pal p = pal(palette);
        Gal g = get(1, gallery, Gal.class);
        if (!suits(p, g)) {
            return NONE;
        }
        bestRow = null;
        repaint(p, g, new int[g.pictures.size()], 0, 0);
        if (bestRow == null) {
            return NONE;
        }
        if (what == 0) {
            return bestCost;
        }
        return what >= 10 && what < 10 + bestRow.length ? bestRow[what - 10] : NONE;
    }

    // ---- paints ----

    private static int[] members(Pal p, int set) {
        int[] m = new int[10];
        int n = 0;
        for (int h = 0; h < p.hues.size(); h++) {
            if ((set >> h & 1) == 1) {
                m[n++] = h;
            }
        }
        return Arrays.copyOf(m, n);
    }

    long loom(int palette, int set) {
        Pal p = pal(palette);
        return p == null ? NONE : orders(p, members(p, set));
    }

    int thread(int palette, int set, int k) {
        Pal p = pal(palette);
        if (p == null) {
            return NONE;
        }
        int[] m = members(p, set);
        if (orders(p, m) == 0 || k < 0 || k >= m.length) {
            return NONE;
        }
        return m[firstOrder[k]];
    }

    int mix(int palette, int hue, int set, int what) {
        Pal p = pal(palette);
        if (p == null || !in(p, hue) || what < 0 || what > 2) {
            return -2;
        }
        int[] m = members(p, set);
        int[] own = p.hues.get(hue);
        int start = own[0] * 100 + own[1] * 10 + own[2];
        boolean fine = true;
        for (int h : m) {
            fine &= !cl(p, hue, h);
        }
        if (fine) {
            return new int[] {0, NONE, start}[what];
        }
        // by levels: of each colour the least row of units as a text
        String[] level = new String[1000];
        level[start] = "";
        boolean[] ever = new boolean[1000];
        for (int units = 1; units <= 1001; units++) {
            String[] next = new String[1000];
            for (int c = 0; c < 1000; c++) {
                for (int h = 0; level[c] != null && h < p.hues.size(); h++) {
                    int[] q = p.hues.get(h);
                    int d = (c / 100 + q[0]) % 10 * 100 + (c / 10 % 10 + q[1]) % 10 * 10 + (c % 10 + q[2]) % 10;
                    String row = level[c] + h;
                    if (!ever[d] && (next[d] == null || row.compareTo(next[d]) < 0)) {
                        next[d] = row;
                    }
                }
            }
            int best = NONE;
            for (int c = 0; c < 1000; c++) {
                boolean borne = next[c] != null;
                ever[c] |= borne;
                for (int h : m) {
                    borne = borne && !clColour(p, h, c);
                }
                if (borne && (best == NONE || next[c].compareTo(next[best]) < 0)) {
                    best = c;
                }
            }
            if (best != NONE) {
                return new int[] {units, next[best].charAt(0) - '0', best}[what];
            }
            level = next;
        }
        return -2;
    }

    private static int matching(Pal p, List<Integer> left) {
        if (left.size() < 2) {
            return 0;
        }
        List<Integer> rest = new ArrayList<>(left.subList(1, left.size()));
        int best = matching(p, rest);
        for (int j = 0; j < rest.size(); j++) {
            if (!cl(p, left.get(0), rest.get(j))) {
                List<Integer> fewer = new ArrayList<>(rest);
                fewer.remove(j);
                best = Math.max(best, 1 + matching(p, fewer));
                if (best == left.size() / 2) {
                    return best;
                }
            }
        }
        return best;
    }

    int flags(int palette, int hue) {
        Pal p = pal(palette);
        if (p == null || hue != NONE && !in(p, hue)) {
            return -2;
        }
        List<Integer> left = new ArrayList<>();
        for (int h = 0; h < p.hues.size(); h++) {
            left.add(h);
        }
        int most = matching(p, left);
        if (hue == NONE) {
            return most;
        }
        int[] ally = new int[10];
        Arrays.fill(ally, NONE);
        int made = 0;
        for (int h = 0; h < p.hues.size(); h++) {
            if (!left.contains(h)) {
                continue;
            }
            for (int j : new ArrayList<>(left)) {
                List<Integer> fewer = new ArrayList<>(left);
                fewer.remove((Integer) h);
                fewer.remove((Integer) j);
                if (j != h && !cl(p, h, j) && made + 1 + matching(p, fewer) == most) {
                    ally[h] = j;
                    ally[j] = h;
                    left = fewer;
                    made++;
                    break;
                }
            }
        }
        return ally[hue];
    }

    int gain(int palette, int who, int couple) {
        Pal p = pal(palette);
        if (p == null || who < 0 || who > 1 || couple < 0 || !in(p, couple / 10) || !in(p, couple % 10)) {
            return -1000;
        }
        int own = who == 0 ? couple / 10 : couple % 10;
        return p.likes[who][own] - 3 * st(p, couple / 10, couple % 10);
    }

    int rest(int palette, int k) {
        Pal p = pal(palette);
        if (p == null) {
            return NONE;
        }
        List<Integer> rests = new ArrayList<>();
        for (int c = 0; c < 100; c++) {
            if (!in(p, c / 10) || !in(p, c % 10)) {
                continue;
            }
            boolean fine = true;
            for (int h = 0; h < p.hues.size(); h++) {
                fine &= gain(palette, 0, h * 10 + c % 10) <= gain(palette, 0, c);
                fine &= gain(palette, 1, c / 10 * 10 + h) <= gain(palette, 1, c);
            }
            if (fine) {
                rests.add(c);
            }
        }
        return k == NONE ? rests.size() : k < 0 || k >= rests.size() ? NONE : rests.get(k);
    }

    int spread(int palette, int hue, boolean rounds) {
        Pal p = pal(palette);
        if (p == null || !in(p, hue)) {
            return NONE;
        }
        TreeSet<Integer> ill = new TreeSet<>();
        ill.add(hue);
        int passed = 0;
        while (true) {
            TreeSet<Integer> more = new TreeSet<>(ill);
            for (int a : ill) {
                for (int h = 0; h < p.hues.size(); h++) {
                    if (cl(p, a, h)) {
                        more.add(h);
                    }
                }
            }
            if (more.equals(ill)) {
                return rounds ? passed : ill.size();
            }
            ill = more;
            passed++;
        }
    }

    // ---- sights ----

    int sneeze(int sight, int k, int what) {
        return line(3, sight, k, what);
    }

    private static boolean holds(Pal p, int[] rule, int a, int b) {
        Pal q = new Pal();
        q.hues = p.hues;
        q.rules.add(rule);
        return cl(q, a, b);
    }

    int fits(int palette, int sight, int k, int what) {
        Pal p = pal(palette);
        Rows s = get(3, sight, Rows.class);
        if (p == null || s == null) {
            return -2;
        }
        for (int[] l : s.lines) {
            if (!in(p, l[1]) || !in(p, l[2])) {
                return -2;
            }
        }
        List<int[]> fit = new ArrayList<>();
        for (int sort = 0; sort < 3; sort++) {
            for (int x = 0; x < (sort == 0 ? 55 : 3); x++) {
                for (int y = sort == 0 ? x : sort == 1 ? 1 : NONE; y < (sort == 0 ? 55 : sort == 1 ? 10 : 0); y++) {
                    int[] rule = {sort, x, y};
                    boolean fine = true;
                    for (int[] l : s.lines) {
                        fine &= holds(p, rule, l[1], l[2]) == (l[0] == 1);
                    }
                    if (fine) {
                        fit.add(rule);
                    }
                }
            }
        }
        if (k == NONE && what == 0) {
            return fit.size();
        }
        if (k == NONE && what == 1) {
            int best = NONE;
            int least = Integer.MAX_VALUE;
            for (int a = 0; a < p.hues.size(); a++) {
                for (int b = a + 1; b < p.hues.size(); b++) {
                    int yes = 0;
                    for (int[] rule : fit) {
                        yes += holds(p, rule, a, b) ? 1 : 0;
                    }
                    int greater = Math.max(yes, fit.size() - yes);
                    if (greater < least) {
                        least = greater;
                        best = 10 * a + b;
                    }
                }
            }
            return best;
        }
        return k < 0 || k >= fit.size() || what < 0 || what > 2 ? -2 : fit.get(k)[what];
    }

    // ---- dinners ----

    int guest(int dinner, int k) {
        Rows d = get(4, dinner, Rows.class);
        if (d == null) {
            return -2;
        }
        if (k == NONE) {
            return d.lines.size();
        }
        if (k < 0 || k >= d.lines.size()) {
            return -2;
        }
        int bits = 0;
        for (int h : d.lines.get(k)) {
            bits |= 1 << h;
        }
        return bits;
    }

    private int[] firstWay;
    private int few;

    private long dress(Pal p, Rows d, int[] on, int k) {
        int n = d.lines.size();
        if (k == n) {
            if (n > 2 && cl(p, on[0], on[n - 1])) {
                return 0;
            }
            if (firstWay == null) {
                firstWay = on.clone();
            }
            few = Math.min(few, (int) Arrays.stream(on).distinct().count());
            return 1;
        }
        long sum = 0;
        for (int h : d.lines.get(k)) {
            if (k == 0 || !cl(p, on[k - 1], h)) {
                on[k] = h;
                sum += dress(p, d, on, k + 1);
            }
        }
        return sum;
    }

    private static boolean canDine(Pal p, Rows d) {
        return p != null && d != null && d.lines.stream().allMatch(l -> Arrays.stream(l).allMatch(h -> in(p, h)));
    }

    long ways(int palette, int dinner) {
        Pal p = pal(palette);
        Rows d = get(4, dinner, Rows.class);
        if (!canDine(p, d)) {
            return NONE;
        }
        firstWay = null;
        few = 99;
        return dress(p, d, new int[d.lines.size()], 0);
    }

    int dinner(int palette, int dinner, int what) {
        if (ways(palette, dinner) <= 0) {
            return NONE;
        }
        if (what == 0) {
            return few;
        }
        return what >= 10 && what < 10 + firstWay.length ? firstWay[what - 10] : NONE;
    }

    int drawn(int palette, int dinner, int seed, int n, int what) {
        Pal p = pal(palette);
        Rows d = get(4, dinner, Rows.class);
        if (!canDine(p, d) || n < 0 || n > 40 || what < 0 || what > 1) {
            return NONE;
        }
        long x = seed & 0xffffffffL;
        int calm = 0;
        int all = 0;
        for (int e = 0; e < n; e++) {
            List<Integer> on = new ArrayList<>();
            for (int[] hues : d.lines) {
                x = (x * 1103515245L + 12345L) & 0xffffffffL;
                on.add(hues[(int) ((x >> 16) % hues.length)]);
            }
            int sum = 0;
            TreeSet<String> done = new TreeSet<>();
            for (int k = 0; k < on.size(); k++) {
                int j = (k + 1) % on.size();
                if (j != k && done.add(Math.min(j, k) + "-" + Math.max(j, k))) {
                    sum += st(p, on.get(k), on.get(j));
                }
            }
            all += sum;
            calm += sum == 0 ? 1 : 0;
        }
        return what == 0 ? calm : all;
    }

    int count(int sort) {
        return sort < 0 || sort > 4 ? -2 : now.texts.get(sort).size();
    }

    boolean image(int k) {
        if (k < 0 || k > 2) {
            return false;
        }
        images[k] = now.copy();
        return true;
    }

    boolean again(int k) {
        if (k < 0 || k > 2 || images[k] == null) {
            return false;
        }
        now = images[k].copy();
        return true;
    }
}
