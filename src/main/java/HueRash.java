/** Colours that can't bear each other: palettes, galleries, days, sights and dinners, told as texts. */
public final class HueRash {
    public static final int NONE = -1;

    private static final int NO_SUCH = -2;
    private static final int NO_GAIN = -1000;

    private static final int TAPE = 600;
    private static final int FEED = 20;
    private static final int SORTS = 5;
    private static final int EACH_SORT = 2;
    private static final int IMAGES = 3;

    private static final int PALETTES = 0;
    private static final int GALLERIES = 1;
    private static final int DAYS = 2;
    private static final int SIGHTS = 3;
    private static final int DINNERS = 4;

    private static final int MOST_HUES = 10;
    private static final int MOST_RULES = 6;
    private static final int MOST_PICTURES = 9;
    private static final int MOST_DEEDS = 40;
    private static final int MOST_SNEEZES = 12;
    private static final int MOST_GUESTS = 8;
    private static final int MOST_EVENINGS = 40;
    private static final int PARTS = 3;
    private static final int TONES = 10;
    private static final int COLOURS = 1000;
    private static final int PEOPLE = 6;
    private static final int ROOMS = 4;
    private static final int USUAL_LIMIT = 10;

    /** How many lines a roll of each sort may have; a palette has no roll. */
    private static final int[] ROLL_LIMITS = {0, MOST_PICTURES, MOST_DEEDS, MOST_SNEEZES, MOST_GUESTS};

    /** A line's kind is 10 times its sort, and the code by which it is told. */
    private static final int SUM = 0;
    private static final int GAP = 1;
    private static final int LIKE = 2;
    private static final int PAIR = 3;
    private static final int CURE = 4;
    private static final int HUE = 5;
    private static final int LIKES = 6;
    private static final int PICTURE = 10;
    private static final int LIMIT = 11;
    private static final int HANG = 20;
    private static final int TAKE = 21;
    private static final int WEAR = 22;
    private static final int ENTER = 23;
    private static final int LEAVE = 24;
    private static final int HOUR = 25;
    private static final int CALM = 30;
    private static final int SNEEZED = 31;
    private static final int GUEST = 40;

    private static final Line[] LINES = Line.values();

    private final Told told;
    private final Told[] images;
    private final boolean[] imaged;
    private final Reader reader;
    private final Crowd crowd;
    private final Walk walk;
    private final Brush brush;
    private final Guess guess;
    private final Table table;

    public HueRash() {
        told = new Told();
        images = new Told[IMAGES];
        for (int k = 0; k < IMAGES; k++) {
            images[k] = new Told();
        }
        imaged = new boolean[IMAGES];
        reader = new Reader();
        crowd = new Crowd();
        walk = new Walk();
        brush = new Brush();
        guess = new Guess();
        table = new Table();
    }

    public int feed(int a, int b, int c, int d, int e) {
        if (told.length + FEED > TAPE) {
            return NONE;
        }
        told.put(a);
        told.put(b);
        told.put(c);
        told.put(d);
        told.put(e);
        return told.length;
    }

    public int end(int n) {
        if (n < 0 || n > told.length) {
            return NONE;
        }
        told.length = n;
        return n;
    }

    public int text(int sort, int at) {
        int slot = told.slotFor(sort, at);
        int length = told.length;
        told.length = 0;
        told.fault = 0;
        told.faultPlace = NONE;
        if (slot < 0) {
            return NO_SUCH;
        }
        reader.read(told.tape, length, sort);
        told.fault = reader.fault;
        told.faultPlace = reader.faultPlace;
        if (reader.fault != 0) {
            return NONE;
        }
        told.keep(sort, slot, reader.palette, reader.roll);
        forgetAnswers();
        return slot;
    }

    public int fault(int what) {
        if (what == 0) {
            return told.fault;
        }
        return what == 1 ? told.faultPlace : NONE;
    }

    public int palette(int palette, int what) {
        Palette colours = told.paletteAt(palette);
        return colours == null ? NONE : colours.answer(what);
    }

    public int rule(int palette, int k, int what) {
        Palette colours = told.paletteAt(palette);
        if (colours == null || k < 0 || k >= colours.rules || what < 0 || what > 2) {
            return NO_SUCH;
        }
        return colours.rulings[3 * k + what];
    }

    public int strength(int palette, int a, int b) {
        Palette colours = told.paletteAt(palette);
        if (colours == null || !colours.has(a) || !colours.has(b)) {
            return NONE;
        }
        return colours.strengthOf(a, b);
    }

    public int minds(int palette, int hue, int red, int yellow, int blue) {
        Palette colours = told.paletteAt(palette);
        if (colours == null || !colours.has(hue)) {
            return NONE;
        }
        if (!isTone(red) || !isTone(yellow) || !isTone(blue)) {
            return NONE;
        }
        return colours.strengthWith(hue, red, yellow, blue);
    }

    public int gallery(int gallery, int what) {
        Roll pictures = told.rollAt(GALLERIES, gallery);
        if (pictures == null) {
            return NONE;
        }
        if (what == 0) {
            return pictures.size;
        }
        if (what == 1) {
            return pictures.limit;
        }
        if (what >= 10 && what < 10 + pictures.size) {
            return pictures.first[what - 10];
        }
        if (what >= 20 && what < 20 + pictures.size) {
            return pictures.second[what - 20];
        }
        return NONE;
    }

    public int deed(int day, int k, int what) {
        return lineOf(told.rollAt(DAYS, day), k, what);
    }

    public int stop(int palette, int gallery, int day) {
        Palette colours = told.paletteAt(palette);
        Roll pictures = told.rollAt(GALLERIES, gallery);
        Roll deeds = told.rollAt(DAYS, day);
        if (deeds == null || !goTogether(colours, pictures)) {
            return NONE;
        }
        return walk.go(colours, pictures, deeds, deeds.size);
    }

    public int state(int palette, int gallery, int day, int n, int what) {
        Palette colours = told.paletteAt(palette);
        Roll pictures = told.rollAt(GALLERIES, gallery);
        Roll deeds = told.rollAt(DAYS, day);
        if (deeds == null || !goTogether(colours, pictures) || n < 0 || n > deeds.size) {
            return NO_SUCH;
        }
        if (walk.go(colours, pictures, deeds, n) < n) {
            return NO_SUCH;
        }
        return walk.answer(colours, pictures, what);
    }

    public int hung(int palette, int gallery, int what) {
        Palette colours = told.paletteAt(palette);
        Roll pictures = told.rollAt(GALLERIES, gallery);
        if (!goTogether(colours, pictures)) {
            return NO_SUCH;
        }
        if (what == 3) {
            return colours.worstOf(pictures);
        }
        if (what == 4) {
            return colours.strengthsOf(pictures);
        }
        crowd.gatherPictures(colours, pictures);
        if (what == 0) {
            return crowd.fewestParts();
        }
        if (what == 1) {
            return crowd.greatestQuarrel();
        }
        return what == 2 ? crowd.fewestHidden() : NO_SUCH;
    }

    public long rows(int palette, int gallery) {
        return lineUpPictures(palette, gallery) ? crowd.orders : NONE;
    }

    public int row(int palette, int gallery, int k) {
        return lineUpPictures(palette, gallery) ? crowd.placed(k) : NONE;
    }

    public int repainted(int palette, int gallery, int what) {
        Palette colours = told.paletteAt(palette);
        Roll pictures = told.rollAt(GALLERIES, gallery);
        if (!goTogether(colours, pictures)) {
            return NONE;
        }
        int cost = brush.repaint(colours, pictures);
        if (cost < 0 || what == 0) {
            return cost;
        }
        return what >= 10 && what < 10 + pictures.size ? brush.painted[what - 10] : NONE;
    }

    public long loom(int palette, int set) {
        return lineUpHues(palette, set) ? crowd.orders : NONE;
    }

    public int thread(int palette, int set, int k) {
        return lineUpHues(palette, set) ? crowd.placed(k) : NONE;
    }

    public int mix(int palette, int hue, int set, int what) {
        Palette colours = told.paletteAt(palette);
        if (colours == null || !colours.has(hue) || what < 0 || what > 2) {
            return NO_SUCH;
        }
        if (!brush.blend(colours, hue, set)) {
            return NO_SUCH;
        }
        if (what == 0) {
            return brush.units;
        }
        return what == 1 ? brush.firstUnit : brush.colour;
    }

    public int flags(int palette, int hue) {
        Palette colours = told.paletteAt(palette);
        if (colours == null || (hue != NONE && !colours.has(hue))) {
            return NO_SUCH;
        }
        if (crowd.coupledPalette != palette) {
            crowd.gatherHues(colours, colours.all());
            crowd.couple();
            crowd.coupledPalette = palette;
        }
        return hue == NONE ? crowd.couples : crowd.allies[hue];
    }

    public int gain(int palette, int who, int couple) {
        Palette colours = told.paletteAt(palette);
        if (colours == null || who < 0 || who > 1 || couple < 0) {
            return NO_GAIN;
        }
        int left = couple / 10;
        int right = couple % 10;
        if (!colours.has(left) || !colours.has(right)) {
            return NO_GAIN;
        }
        return colours.gainOf(who, left, right);
    }

    public int rest(int palette, int k) {
        Palette colours = told.paletteAt(palette);
        if (colours == null || k < NONE) {
            return NONE;
        }
        int found = 0;
        for (int left = 0; left < colours.hues; left++) {
            for (int right = 0; right < colours.hues; right++) {
                if (colours.isRest(left, right)) {
                    if (found == k) {
                        return 10 * left + right;
                    }
                    found++;
                }
            }
        }
        return k == NONE ? found : NONE;
    }

    public int spread(int palette, int hue, boolean rounds) {
        Palette colours = told.paletteAt(palette);
        if (colours == null || !colours.has(hue)) {
            return NONE;
        }
        int ill = 1 << hue;
        int passed = 0;
        for (int step = 0; step < MOST_HUES; step++) {
            int next = ill | colours.foesOfAny(ill);
            if (next == ill) {
                break;
            }
            ill = next;
            passed++;
        }
        return rounds ? passed : Integer.bitCount(ill);
    }

    public int sneeze(int sight, int k, int what) {
        return lineOf(told.rollAt(SIGHTS, sight), k, what);
    }

    public int fits(int palette, int sight, int k, int what) {
        Palette colours = told.paletteAt(palette);
        Roll sneezes = told.rollAt(SIGHTS, sight);
        if (!goTogether(colours, sneezes)) {
            return NO_SUCH;
        }
        int slot = EACH_SORT * palette + sight;
        guess.look(slot, colours, sneezes);
        if (k != NONE) {
            return guess.fitting(slot, k, what);
        }
        if (what == 0) {
            return guess.sizes[slot];
        }
        return what == 1 ? guess.tells[slot] : NO_SUCH;
    }

    public int guest(int dinner, int k) {
        Roll guests = told.rollAt(DINNERS, dinner);
        if (guests == null) {
            return NO_SUCH;
        }
        if (k == NONE) {
            return guests.size;
        }
        return guests.has(k) ? guests.first[k] : NO_SUCH;
    }

    public long ways(int palette, int dinner) {
        Palette colours = told.paletteAt(palette);
        Roll guests = told.rollAt(DINNERS, dinner);
        if (!goTogether(colours, guests)) {
            return NONE;
        }
        table.seat(colours, guests);
        return table.total;
    }

    public int dinner(int palette, int dinner, int what) {
        Palette colours = told.paletteAt(palette);
        Roll guests = told.rollAt(DINNERS, dinner);
        if (!goTogether(colours, guests)) {
            return NONE;
        }
        table.seat(colours, guests);
        if (table.total == 0) {
            return NONE;
        }
        if (what == 0) {
            return table.fewestHues(colours, guests);
        }
        return what >= 10 && what < 10 + guests.size ? table.worn[what - 10] : NONE;
    }

    public int drawn(int palette, int dinner, int seed, int n, int what) {
        Palette colours = told.paletteAt(palette);
        Roll guests = told.rollAt(DINNERS, dinner);
        if (!goTogether(colours, guests) || n < 0 || n > MOST_EVENINGS) {
            return NONE;
        }
        if (what != 0 && what != 1) {
            return NONE;
        }
        table.dine(colours, guests, seed, n);
        return what == 0 ? table.calmEvenings : table.allStrengths;
    }

    public int count(int sort) {
        return sort < 0 || sort >= SORTS ? NO_SUCH : told.sizes[sort];
    }

    public boolean image(int k) {
        if (k < 0 || k >= IMAGES) {
            return false;
        }
        images[k].copyFrom(told);
        imaged[k] = true;
        return true;
    }

    public boolean again(int k) {
        if (k < 0 || k >= IMAGES || !imaged[k]) {
            return false;
        }
        told.copyFrom(images[k]);
        forgetAnswers();
        return true;
    }

    /** Answers kept from earlier calls hold only as long as the texts they were found from. */
    private void forgetAnswers() {
        crowd.forget();
        guess.forget();
    }

    private boolean lineUpPictures(int palette, int gallery) {
        Palette colours = told.paletteAt(palette);
        Roll pictures = told.rollAt(GALLERIES, gallery);
        if (!goTogether(colours, pictures)) {
            return false;
        }
        int key = EACH_SORT * (1 << MOST_HUES) + EACH_SORT * palette + gallery;
        if (crowd.linedUp != key) {
            crowd.gatherPictures(colours, pictures);
            crowd.lineUp();
            crowd.linedUp = key;
        }
        return true;
    }

    private boolean lineUpHues(int palette, int set) {
        Palette colours = told.paletteAt(palette);
        if (colours == null) {
            return false;
        }
        int members = set & colours.all();
        int key = palette * (1 << MOST_HUES) + members;
        if (crowd.linedUp != key) {
            crowd.gatherHues(colours, members);
            crowd.lineUp();
            crowd.linedUp = key;
        }
        return true;
    }

    private static int lineOf(Roll roll, int k, int what) {
        if (roll == null) {
            return NO_SUCH;
        }
        if (k == NONE) {
            return what == 0 ? roll.size : NO_SUCH;
        }
        if (!roll.has(k)) {
            return NO_SUCH;
        }
        switch (what) {
            case 0:
                return roll.code[k];
            case 1:
                return roll.first[k];
            case 2:
                return roll.second[k];
            default:
                return NO_SUCH;
        }
    }

    /** Both are there, and every hue that the roll tells of is in the palette. */
    private static boolean goTogether(Palette colours, Roll roll) {
        return colours != null && roll != null && colours.hasAll(roll.named);
    }

    private static boolean isTone(int part) {
        return part >= 0 && part < TONES;
    }

    private static boolean holdsBit(int set, int k) {
        return (set >> k & 1) != 0;
    }

    /** NONE of the empty set. */
    private static int leastOf(int set) {
        for (int k = 0; k < MOST_HUES; k++) {
            if (holdsBit(set, k)) {
                return k;
            }
        }
        return NONE;
    }

    /** The kinds of lines of all texts: their words, how many numbers follow, and what these may be. */
    enum Line {
        HUE_LINE(HUE, "hue", 3, 9, 0, 9, 9),
        SUM_LINE(SUM, "sum", 2, 54, 0, 54, 0),
        GAP_LINE(GAP, "gap", 2, 2, 1, 9, 0),
        LIKE_LINE(LIKE, "like", 1, 2, 0, 0, 0),
        PAIR_LINE(PAIR, "pair", 2, 9, 0, 9, 0),
        CURE_LINE(CURE, "cure", 2, 2, 1, 18, 0),
        LIKES_LINE(LIKES, "likes", 3, 1, 0, 9, 9),
        PICTURE_LINE(PICTURE, "picture", 2, 9, 1, 9, 0),
        LIMIT_LINE(LIMIT, "limit", 1, 99, 0, 0, 0),
        HANG_LINE(HANG, "hang", 2, 8, 0, 3, 0),
        TAKE_LINE(TAKE, "take", 1, 8, 0, 0, 0),
        WEAR_LINE(WEAR, "wear", 2, 5, 0, 9, 0),
        ENTER_LINE(ENTER, "enter", 2, 5, 0, 3, 0),
        LEAVE_LINE(LEAVE, "leave", 1, 5, 0, 0, 0),
        HOUR_LINE(HOUR, "hour", 0, 0, 0, 0, 0),
        CALM_LINE(CALM, "calm", 2, 9, 0, 9, 0),
        SNEEZED_LINE(SNEEZED, "sneezed", 2, 9, 0, 9, 0),
        GUEST_LINE(GUEST, "guest", 1, 9, 0, 0, 0);

        final int kind;
        final String word;
        final int numbers;
        private final int firstMost;
        private final int secondLeast;
        private final int secondMost;
        private final int thirdMost;

        Line(int kind, String word, int numbers, int firstMost, int secondLeast, int secondMost, int thirdMost) {
            this.kind = kind;
            this.word = word;
            this.numbers = numbers;
            this.firstMost = firstMost;
            this.secondLeast = secondLeast;
            this.secondMost = secondMost;
            this.thirdMost = thirdMost;
        }

        int sort() {
            return kind / 10;
        }

        int code() {
            return kind % 10;
        }

        boolean firstCanBe(int number) {
            return number <= firstMost;
        }

        boolean secondCanBe(int number, int before) {
            if (number < secondLeast || number > secondMost) {
                return false;
            }
            if (kind == SUM) {
                return number >= before;
            }
            return number != before || (kind != PAIR && kind != CALM && kind != SNEEZED);
        }

        boolean thirdCanBe(int number) {
            return number <= thirdMost;
        }
    }

    /** Reads a tape as a text of one sort, into a palette or a roll of its own. */
    static final class Reader {
        private static final int END = 0;
        private static final int WORD = 1;
        private static final int NUMBER = 2;
        private static final int SEMICOLON = 3;
        private static final int STRANGE = 4;

        final Palette palette = new Palette();
        final Roll roll = new Roll();
        int fault;
        int faultPlace;

        private byte[] tape = new byte[0];
        private int length;
        private int at;

        /** The token that is looked at. */
        private int kind;
        private int start;
        private int value;

        /** The numbers of the line that is read; of a guest his hues, and the first number that can't be. */
        private final int[] numbers = new int[3];
        private final int[] places = new int[3];
        private int guestHues;
        private int guestBadPlace;
        /** The hues that pairs and likes told of. */
        private int namedHues;

        void read(byte[] bytes, int size, int sort) {
            tape = bytes;
            length = size;
            at = 0;
            fault = 0;
            faultPlace = NONE;
            namedHues = 0;
            palette.clear();
            roll.clear();
            advance();
            boolean formed = true;
            for (int k = 0; k <= TAPE && formed && kind != END; k++) {
                formed = readLine(sort);
            }
            if (!formed) {
                // what was noted before counts only if the whole text has its form
                fault = 1;
                faultPlace = start;
            } else if (!palette.hasAll(namedHues)) {
                note(4, length);
            }
        }

        private void note(int sortOfFault, int place) {
            if (fault == 0) {
                fault = sortOfFault;
                faultPlace = place;
            }
        }

        /** False: the text can't go on with the token that is looked at. */
        private boolean readLine(int sort) {
            Line line = kind == WORD ? lineNamed(sort) : null;
            if (line == null) {
                return false;
            }
            int wordPlace = start;
            advance();
            boolean formed = line.kind == GUEST ? readGuestHues() : readNumbers(line.numbers);
            if (!formed || kind != SEMICOLON) {
                return false;
            }
            advance();
            if (fault == 0) {
                take(line, wordPlace);
            }
            return true;
        }

        private boolean readNumbers(int wanted) {
            for (int k = 0; k < 3; k++) {
                numbers[k] = NONE;
                places[k] = NONE;
            }
            for (int k = 0; k < wanted && k < 3; k++) {
                if (kind != NUMBER) {
                    return false;
                }
                numbers[k] = value;
                places[k] = start;
                advance();
            }
            return true;
        }

        private boolean readGuestHues() {
            if (kind != NUMBER) {
                return false;
            }
            guestHues = 0;
            guestBadPlace = NONE;
            for (int k = 0; k <= TAPE && kind == NUMBER; k++) {
                boolean known = value < MOST_HUES;
                if (known && !holdsBit(guestHues, value)) {
                    guestHues |= 1 << value;
                } else if (guestBadPlace == NONE) {
                    guestBadPlace = start;
                }
                advance();
            }
            return true;
        }

        private void take(Line line, int wordPlace) {
            if (isFull(line)) {
                note(3, wordPlace);
                return;
            }
            int bad = badPlace(line);
            if (bad != NONE) {
                note(2, bad);
                return;
            }
            if (line.sort() == PALETTES) {
                keepInPalette(line);
            } else {
                keepInRoll(line);
            }
        }

        private boolean isFull(Line line) {
            if (line.kind == LIKES || line.kind == LIMIT) {
                return false;
            }
            if (line.kind == HUE) {
                return palette.hues >= MOST_HUES;
            }
            if (line.sort() == PALETTES) {
                return palette.rules >= MOST_RULES;
            }
            return roll.size >= ROLL_LIMITS[line.sort()];
        }

        private int badPlace(Line line) {
            if (line.kind == GUEST) {
                return guestBadPlace;
            }
            if (line.numbers > 0 && !line.firstCanBe(numbers[0])) {
                return places[0];
            }
            if (line.numbers > 1 && !line.secondCanBe(numbers[1], numbers[0])) {
                return places[1];
            }
            if (line.numbers > 2 && !line.thirdCanBe(numbers[2])) {
                return places[2];
            }
            return NONE;
        }

        private void keepInPalette(Line line) {
            if (line.kind == HUE) {
                palette.addHue(numbers[0], numbers[1], numbers[2]);
            } else if (line.kind == LIKES) {
                palette.setLikes(numbers[0], numbers[1], numbers[2]);
                namedHues |= 1 << numbers[1];
            } else {
                palette.addRule(line.kind, numbers[0], numbers[1]);
                namedHues |= line.kind == PAIR ? 1 << numbers[0] | 1 << numbers[1] : 0;
            }
        }

        private void keepInRoll(Line line) {
            switch (line.kind) {
                case LIMIT:
                    roll.limit = numbers[0];
                    break;
                case PICTURE:
                    roll.name(1 << numbers[0]);
                    roll.add(line.code(), numbers[0], numbers[1]);
                    break;
                case CALM:
                case SNEEZED:
                    roll.name(1 << numbers[0] | 1 << numbers[1]);
                    roll.add(line.code(), numbers[0], numbers[1]);
                    break;
                case GUEST:
                    roll.name(guestHues);
                    roll.add(line.code(), guestHues, NONE);
                    break;
                default:
                    roll.add(line.code(), numbers[0], numbers[1]);
            }
        }

        private Line lineNamed(int sort) {
            for (int k = 0; k < LINES.length; k++) {
                if (LINES[k].sort() == sort && spells(LINES[k].word)) {
                    return LINES[k];
                }
            }
            return null;
        }

        private boolean spells(String word) {
            if (word.length() != at - start) {
                return false;
            }
            for (int k = 0; k < word.length(); k++) {
                if (byteAt(start + k) != word.charAt(k)) {
                    return false;
                }
            }
            return true;
        }

        /** The next token is looked at; behind a strange one nothing is read any more. */
        private void advance() {
            for (int k = 0; k <= TAPE && isBlank(byteAt(at)); k++) {
                at++;
            }
            start = at;
            int sign = byteAt(at);
            if (sign < 0) {
                kind = END;
            } else if (isLetter(sign)) {
                kind = WORD;
                for (int k = 0; k <= TAPE && isLetter(byteAt(at)); k++) {
                    at++;
                }
            } else if (isDigit(sign)) {
                readDigits();
            } else {
                kind = sign == ';' ? SEMICOLON : STRANGE;
                at++;
            }
        }

        private void readDigits() {
            value = 0;
            for (int k = 0; k <= TAPE && isDigit(byteAt(at)); k++) {
                value = 10 * value + byteAt(at) - '0';
                at++;
            }
            kind = at - start > 2 ? STRANGE : NUMBER;
        }

        /** NONE behind the end. */
        private int byteAt(int k) {
            return k < 0 || k >= length || k >= tape.length ? NONE : tape[k] & 255;
        }

        private static boolean isBlank(int sign) {
            return sign == 10 || sign == 32;
        }

        private static boolean isLetter(int sign) {
            return sign >= 'a' && sign <= 'z';
        }

        private static boolean isDigit(int sign) {
            return sign >= '0' && sign <= '9';
        }
    }

    /** All that is told: the tape, the latest fault, and the texts of all sorts. */
    static final class Told {
        final byte[] tape = new byte[TAPE];
        int length;
        int fault;
        int faultPlace = NONE;
        final int[] sizes = new int[SORTS];
        private final Palette[] palettes = new Palette[EACH_SORT];
        private final Roll[] rolls = new Roll[EACH_SORT * (SORTS - 1)];

        Told() {
            for (int k = 0; k < EACH_SORT; k++) {
                palettes[k] = new Palette();
            }
            for (int k = 0; k < EACH_SORT * (SORTS - 1); k++) {
                rolls[k] = new Roll();
            }
        }

        void put(int number) {
            for (int shift = 24; shift >= 0 && length < TAPE; shift -= 8) {
                tape[length] = (byte) (number >>> shift);
                length++;
            }
        }

        /** The number that a text of that sort would get, NO_SUCH if it can't be. */
        int slotFor(int sort, int at) {
            if (sort < 0 || sort >= SORTS) {
                return NO_SUCH;
            }
            if (at == NONE) {
                return sizes[sort] < EACH_SORT ? sizes[sort] : NO_SUCH;
            }
            return at >= 0 && at < sizes[sort] ? at : NO_SUCH;
        }

        void keep(int sort, int slot, Palette palette, Roll roll) {
            if (sort == PALETTES) {
                palettes[slot].copyFrom(palette);
            } else {
                rolls[rollIndex(sort, slot)].copyFrom(roll);
            }
            if (slot == sizes[sort]) {
                sizes[sort]++;
            }
        }

        Palette paletteAt(int k) {
            return k >= 0 && k < sizes[PALETTES] ? palettes[k] : null;
        }

        Roll rollAt(int sort, int k) {
            return k >= 0 && k < sizes[sort] ? rolls[rollIndex(sort, k)] : null;
        }

        void copyFrom(Told other) {
            System.arraycopy(other.tape, 0, tape, 0, TAPE);
            length = other.length;
            fault = other.fault;
            faultPlace = other.faultPlace;
            System.arraycopy(other.sizes, 0, sizes, 0, SORTS);
            for (int k = 0; k < palettes.length; k++) {
                palettes[k].copyFrom(other.palettes[k]);
            }
            for (int k = 0; k < rolls.length; k++) {
                rolls[k].copyFrom(other.rolls[k]);
            }
        }

        private static int rollIndex(int sort, int k) {
            return EACH_SORT * (sort - 1) + k;
        }
    }

    /** Hues, rules and likes; who clashes with whom is found when it is copied from another one. */
    static final class Palette {
        private static final int UNKNOWN = -2;
        private static final int MOST_TOTAL = 27;

        int hues;
        int rules;
        final int[] parts = new int[MOST_HUES * PARTS];
        /** Of each rule its sort and its two numbers. */
        final int[] rulings = new int[3 * MOST_RULES];
        private final int[] likes = new int[2 * MOST_HUES];

        private final int[] strengths = new int[MOST_HUES * MOST_HUES];
        private final int[] foes = new int[MOST_HUES];
        /** The hues by which a rule holds, or a cure does, with a colour of that part (or of that total). */
        private final int[] holdersByPart = new int[PARTS * TONES];
        private final int[] holdersByTotal = new int[MOST_TOTAL + 1];
        private final int[] curedByPart = new int[PARTS * TONES];
        private int dot;

        void clear() {
            hues = 0;
            rules = 0;
            for (int k = 0; k < likes.length; k++) {
                likes[k] = 0;
            }
        }

        void addHue(int red, int yellow, int blue) {
            if (hues < MOST_HUES) {
                parts[PARTS * hues] = red;
                parts[PARTS * hues + 1] = yellow;
                parts[PARTS * hues + 2] = blue;
                hues++;
            }
        }

        void addRule(int sort, int x, int y) {
            if (rules < MOST_RULES) {
                rulings[3 * rules] = sort;
                rulings[3 * rules + 1] = x;
                rulings[3 * rules + 2] = y;
                rules++;
            }
        }

        void setLikes(int who, int hue, int much) {
            likes[MOST_HUES * who + hue] = much;
        }

        void copyFrom(Palette other) {
            hues = other.hues;
            rules = other.rules;
            System.arraycopy(other.parts, 0, parts, 0, parts.length);
            System.arraycopy(other.rulings, 0, rulings, 0, rulings.length);
            System.arraycopy(other.likes, 0, likes, 0, likes.length);
            dot = UNKNOWN;
            findStrengths();
            findHolders();
        }

        int all() {
            return (1 << hues) - 1;
        }

        boolean has(int hue) {
            return hue >= 0 && hue < hues;
        }

        boolean hasAll(int set) {
            return (set & ~all()) == 0;
        }

        int part(int hue, int p) {
            return parts[PARTS * hue + p];
        }

        int total(int hue) {
            return part(hue, 0) + part(hue, 1) + part(hue, 2);
        }

        int strengthOf(int a, int b) {
            return strengths[MOST_HUES * a + b];
        }

        int foesOf(int hue) {
            return foes[hue];
        }

        int foesOfAny(int set) {
            int all = 0;
            for (int h = 0; h < hues; h++) {
                if (holdsBit(set, h)) {
                    all |= foes[h];
                }
            }
            return all;
        }

        int answer(int what) {
            switch (what) {
                case 0:
                    return hues;
                case 1:
                    return rules;
                case 2:
                    return meek();
                case 3:
                    return fiercest();
                case 4:
                    return dotColour();
                default:
                    return partOrLikes(what);
            }
        }

        private int partOrLikes(int what) {
            int hue = what >= 100 && what < 200 ? (what - 100) / 10 : what % 10;
            if (what < 100 || what >= 220 || !has(hue)) {
                return NONE;
            }
            if (what >= 200) {
                return likes[MOST_HUES * ((what - 200) / 10) + hue];
            }
            int p = what % 10;
            return p < PARTS ? part(hue, p) : NONE;
        }

        private int meek() {
            int set = 0;
            for (int h = 0; h < hues; h++) {
                if (foes[h] == 0) {
                    set |= 1 << h;
                }
            }
            return set;
        }

        private int fiercest() {
            int best = NONE;
            int most = NONE;
            for (int h = 0; h < hues; h++) {
                if (Integer.bitCount(foes[h]) > most) {
                    most = Integer.bitCount(foes[h]);
                    best = h;
                }
            }
            return best;
        }

        private int dotColour() {
            if (dot == UNKNOWN) {
                dot = findDot();
            }
            return dot;
        }

        private int findDot() {
            int best = NONE;
            int least = MOST_TOTAL + 1;
            for (int colour = 0; colour < COLOURS; colour++) {
                int red = colour / 100;
                int yellow = colour / 10 % 10;
                int blue = colour % 10;
                if (red + yellow + blue < least && foesOfColour(red, yellow, blue) == 0) {
                    least = red + yellow + blue;
                    best = colour;
                }
            }
            return best;
        }

        /** The hues that clash with a colour that is no hue. */
        int foesOfColour(int red, int yellow, int blue) {
            int holders = holdersByPart[red] | holdersByPart[TONES + yellow] | holdersByPart[2 * TONES + blue];
            int cured = curedByPart[red] | curedByPart[TONES + yellow] | curedByPart[2 * TONES + blue];
            return (holders | holdersByTotal[red + yellow + blue]) & ~cured;
        }

        /** The strength of a hue and a colour that is no hue. */
        int strengthWith(int hue, int red, int yellow, int blue) {
            int held = 0;
            for (int k = 0; k < rules; k++) {
                int sort = rulings[3 * k];
                int x = rulings[3 * k + 1];
                int theirs = measureOf(red, yellow, blue, sort, x);
                if (sort != PAIR && touches(sort, x, rulings[3 * k + 2], measure(hue, sort, x), theirs)) {
                    if (sort == CURE) {
                        return 0;
                    }
                    held++;
                }
            }
            return held;
        }

        /** Whether a rule of that sort, by its numbers alone, holds for two hues. */
        boolean wouldHold(int sort, int x, int y, int a, int b) {
            return touches(sort, x, y, measure(a, sort, x), measure(b, sort, x));
        }

        int gainOf(int who, int left, int right) {
            return likes[MOST_HUES * who + (who == 0 ? left : right)] - 3 * strengthOf(left, right);
        }

        boolean isRest(int left, int right) {
            for (int h = 0; h < hues; h++) {
                if (gainOf(0, h, right) > gainOf(0, left, right) || gainOf(1, left, h) > gainOf(1, left, right)) {
                    return false;
                }
            }
            return true;
        }

        int worstOf(Roll pictures) {
            int best = NONE;
            int most = NONE;
            for (int k = 0; k < pictures.size; k++) {
                int together = 0;
                for (int j = 0; j < pictures.size; j++) {
                    together += strengthOf(pictures.first[k], pictures.first[j]);
                }
                if (together > most) {
                    most = together;
                    best = k;
                }
            }
            return best;
        }

        int strengthsOf(Roll pictures) {
            int together = 0;
            for (int k = 0; k < pictures.size; k++) {
                for (int j = 0; j < k; j++) {
                    together += strengthOf(pictures.first[k], pictures.first[j]);
                }
            }
            return together;
        }

        private void findStrengths() {
            for (int a = 0; a < hues; a++) {
                foes[a] = 0;
                for (int b = 0; b < hues; b++) {
                    int strength = a == b ? 0 : strengthOfHues(a, b);
                    strengths[MOST_HUES * a + b] = strength;
                    if (strength > 0) {
                        foes[a] |= 1 << b;
                    }
                }
            }
        }

        private int strengthOfHues(int a, int b) {
            int held = 0;
            for (int k = 0; k < rules; k++) {
                int sort = rulings[3 * k];
                int x = rulings[3 * k + 1];
                int y = rulings[3 * k + 2];
                if (sort == PAIR) {
                    held += (x == a && y == b) || (x == b && y == a) ? 1 : 0;
                } else if (wouldHold(sort, x, y, a, b)) {
                    if (sort == CURE) {
                        return 0;
                    }
                    held++;
                }
            }
            return held;
        }

        private void findHolders() {
            for (int k = 0; k < PARTS * TONES; k++) {
                holdersByPart[k] = 0;
                curedByPart[k] = 0;
            }
            for (int k = 0; k <= MOST_TOTAL; k++) {
                holdersByTotal[k] = 0;
            }
            for (int k = 0; k < rules; k++) {
                int sort = rulings[3 * k];
                int x = rulings[3 * k + 1];
                int y = rulings[3 * k + 2];
                if (sort == SUM) {
                    addHolders(holdersByTotal, 0, MOST_TOTAL, sort, x, y);
                } else if (sort == CURE) {
                    addHolders(curedByPart, TONES * x, TONES - 1, sort, x, y);
                } else if (sort != PAIR) {
                    addHolders(holdersByPart, TONES * x, TONES - 1, sort, x, y);
                }
            }
        }

        private void addHolders(int[] holders, int from, int most, int sort, int x, int y) {
            for (int h = 0; h < hues; h++) {
                int mine = measure(h, sort, x);
                for (int theirs = 0; theirs <= most; theirs++) {
                    if (touches(sort, x, y, mine, theirs)) {
                        holders[from + theirs] |= 1 << h;
                    }
                }
            }
        }

        /** What a rule of that sort looks at: all parts together, or its own part. */
        private int measure(int hue, int sort, int x) {
            int at = PARTS * hue;
            if (sort == SUM) {
                return parts[at] + parts[at + 1] + parts[at + 2];
            }
            return x >= 0 && x < PARTS ? parts[at + x] : 0;
        }

        private static int measureOf(int red, int yellow, int blue, int sort, int x) {
            if (sort == SUM) {
                return red + yellow + blue;
            }
            if (x == 0) {
                return red;
            }
            return x == 1 ? yellow : blue;
        }

        /** Whether a rule holds for what it looks at; a pair looks at hues, never at parts. */
        private static boolean touches(int sort, int x, int y, int mine, int theirs) {
            switch (sort) {
                case SUM:
                    return mine + theirs >= x && mine + theirs <= y;
                case GAP:
                    return Math.abs(mine - theirs) >= y;
                case LIKE:
                    return mine == theirs && mine > 0;
                case CURE:
                    return mine + theirs >= y;
                default:
                    return false;
            }
        }
    }

    /** Pictures, deeds, sneezes or guests, each of a code and at most two numbers. */
    static final class Roll {
        int size;
        int limit = USUAL_LIMIT;
        /** The hues that must be in a palette for the two to go together. */
        int named;
        final int[] code = new int[MOST_DEEDS];
        final int[] first = new int[MOST_DEEDS];
        final int[] second = new int[MOST_DEEDS];

        void clear() {
            size = 0;
            limit = USUAL_LIMIT;
            named = 0;
        }

        boolean has(int k) {
            return k >= 0 && k < size;
        }

        void name(int hues) {
            named |= hues;
        }

        void add(int newCode, int newFirst, int newSecond) {
            if (size < code.length) {
                code[size] = newCode;
                first[size] = newFirst;
                second[size] = newSecond;
                size++;
            }
        }

        void copyFrom(Roll other) {
            size = other.size;
            limit = other.limit;
            named = other.named;
            System.arraycopy(other.code, 0, code, 0, code.length);
            System.arraycopy(other.first, 0, first, 0, first.length);
            System.arraycopy(other.second, 0, second, 0, second.length);
        }
    }

    /** At most ten pictures or hues, and who of them clashes with whom. */
    static final class Crowd {
        private static final int SETS = 1 << MOST_HUES;

        private int size;
        private final int[] hues = new int[MOST_HUES];
        private final int[] numbers = new int[MOST_HUES];
        private final int[] foes = new int[MOST_HUES];

        /** Of each set, and each one that begins, in how many orders it can stand. */
        private final int[] begun = new int[SETS * MOST_HUES];
        private final int[] order = new int[MOST_HUES];
        private int ordered;
        int orders;
        /** Which crowd was lined up last. */
        int linedUp = NONE;

        /** Of each set the fewest parts, or the most couples. */
        private final int[] best = new int[SETS];
        private final boolean[] quiet = new boolean[SETS];
        int couples;
        final int[] allies = new int[MOST_HUES];
        /** The palette whose hues were coupled last. */
        int coupledPalette = NONE;

        void forget() {
            linedUp = NONE;
            coupledPalette = NONE;
        }

        void gatherHues(Palette palette, int set) {
            size = 0;
            for (int h = 0; h < palette.hues; h++) {
                if (holdsBit(set, h)) {
                    join(h, h);
                }
            }
            findFoes(palette);
        }

        void gatherPictures(Palette palette, Roll pictures) {
            size = 0;
            for (int k = 0; k < pictures.size; k++) {
                join(k, pictures.first[k]);
            }
            findFoes(palette);
        }

        private void join(int number, int hue) {
            if (size < MOST_HUES) {
                numbers[size] = number;
                hues[size] = hue;
                size++;
            }
        }

        private void findFoes(Palette palette) {
            for (int k = 0; k < size; k++) {
                foes[k] = 0;
                for (int j = 0; j < size; j++) {
                    if (palette.strengthOf(hues[k], hues[j]) > 0) {
                        foes[k] |= 1 << j;
                    }
                }
            }
        }

        private int everyone() {
            return (1 << size) - 1;
        }

        void lineUp() {
            for (int set = 1; set <= everyone(); set++) {
                for (int k = 0; k < size; k++) {
                    if (holdsBit(set, k)) {
                        begun[MOST_HUES * set + k] = ordersBegunBy(set, k);
                    }
                }
            }
            orders = size == 0 ? 1 : 0;
            for (int k = 0; k < size; k++) {
                orders += begun[MOST_HUES * everyone() + k];
            }
            findFirstOrder();
        }

        private int ordersBegunBy(int set, int k) {
            int others = set & ~(1 << k);
            if (others == 0) {
                return 1;
            }
            int next = others & ~foes[k];
            int sum = 0;
            for (int j = 0; j < size; j++) {
                if (holdsBit(next, j)) {
                    sum += begun[MOST_HUES * others + j];
                }
            }
            return sum;
        }

        private void findFirstOrder() {
            ordered = 0;
            int left = everyone();
            int welcome = left;
            for (int step = 0; step < size && orders > 0; step++) {
                int next = leastBeginner(left, welcome);
                if (next == NONE) {
                    break;
                }
                order[ordered] = numbers[next];
                ordered++;
                left &= ~(1 << next);
                welcome = left & ~foes[next];
            }
        }

        private int leastBeginner(int left, int welcome) {
            for (int k = 0; k < size; k++) {
                if (holdsBit(welcome, k) && begun[MOST_HUES * left + k] > 0) {
                    return k;
                }
            }
            return NONE;
        }

        /** Who stands at place k of the first order. */
        int placed(int k) {
            return k >= 0 && k < ordered ? order[k] : NONE;
        }

        private void findQuiet() {
            quiet[0] = true;
            for (int set = 1; set <= everyone(); set++) {
                quiet[set] = quiet[set & (set - 1)] && (foes[leastOf(set)] & set) == 0;
            }
        }

        int fewestParts() {
            findQuiet();
            best[0] = 0;
            for (int set = 1; set <= everyone(); set++) {
                best[set] = fewestPartsOf(set);
            }
            return best[everyone()];
        }

        /** The part of the least one is tried: it alone, or with any of the others. */
        private int fewestPartsOf(int set) {
            int others = set & (set - 1);
            int least = set & ~others;
            int fewest = size;
            int with = others;
            for (int step = 0; step <= others; step++) {
                if (quiet[with | least]) {
                    fewest = Math.min(fewest, 1 + best[others & ~with]);
                }
                if (with == 0) {
                    break;
                }
                with = (with - 1) & others;
            }
            return fewest;
        }

        int greatestQuarrel() {
            int greatest = 0;
            for (int set = 1; set <= everyone(); set++) {
                if (Integer.bitCount(set) > Integer.bitCount(greatest) && isQuarrel(set)) {
                    greatest = set;
                }
            }
            return greatest;
        }

        private boolean isQuarrel(int set) {
            for (int k = 0; k < size; k++) {
                if (holdsBit(set, k) && (set & ~(1 << k) & ~foes[k]) != 0) {
                    return false;
                }
            }
            return true;
        }

        int fewestHidden() {
            findQuiet();
            int fewest = everyone();
            for (int hidden = 0; hidden <= everyone(); hidden++) {
                if (Integer.bitCount(hidden) < Integer.bitCount(fewest) && quiet[everyone() & ~hidden]) {
                    fewest = hidden;
                }
            }
            return fewest;
        }

        void couple() {
            best[0] = 0;
            for (int set = 1; set <= everyone(); set++) {
                best[set] = mostCouplesOf(set);
            }
            couples = best[everyone()];
            int left = everyone();
            for (int k = 0; k < size; k++) {
                allies[k] = NONE;
            }
            for (int k = 0; k < size; k++) {
                if (holdsBit(left, k)) {
                    int ally = leastAlly(left, k);
                    left &= ~(1 << k);
                    if (ally != NONE) {
                        allies[k] = ally;
                        allies[ally] = k;
                        left &= ~(1 << ally);
                    }
                }
            }
        }

        private int mostCouplesOf(int set) {
            int others = set & (set - 1);
            int friends = others & ~foes[leastOf(set)];
            int most = best[others];
            for (int k = 0; k < size; k++) {
                if (holdsBit(friends, k)) {
                    most = Math.max(most, 1 + best[others & ~(1 << k)]);
                }
            }
            return most;
        }

        private int leastAlly(int left, int k) {
            int others = left & ~(1 << k);
            for (int j = 0; j < size; j++) {
                boolean friend = holdsBit(others, j) && !holdsBit(foes[k], j);
                if (friend && 1 + best[others & ~(1 << j)] == best[left]) {
                    return j;
                }
            }
            return NONE;
        }
    }

    /** A day, gone through deed by deed. */
    static final class Walk {
        private int hours;
        private int allRash;
        private int forbiddenHour;
        private int forbiddenRoom;
        private final int[] hangs = new int[MOST_PICTURES];
        private final int[] areas = new int[MOST_PICTURES];
        private final int[] stands = new int[PEOPLE];
        private final int[] wears = new int[PEOPLE];
        private final int[] sneezed = new int[PEOPLE];

        /** The things of the room that is looked at: their hues, and which pictures they are. */
        private int things;
        private final int[] hues = new int[MOST_PICTURES + PEOPLE];
        private final int[] pictures = new int[MOST_PICTURES + PEOPLE];
        /** The pictures that clashed in this hour. */
        private int fading;

        /** Does at most n deeds; answers how many could be done. */
        int go(Palette palette, Roll gallery, Roll day, int n) {
            begin(gallery);
            int done = 0;
            for (int k = 0; k < n && k < day.size; k++) {
                if (!act(palette, gallery, day, k)) {
                    break;
                }
                done++;
            }
            return done;
        }

        private void begin(Roll gallery) {
            hours = 0;
            allRash = 0;
            forbiddenHour = NONE;
            forbiddenRoom = NONE;
            for (int k = 0; k < MOST_PICTURES; k++) {
                hangs[k] = NONE;
                areas[k] = gallery.has(k) ? gallery.second[k] : 0;
            }
            for (int p = 0; p < PEOPLE; p++) {
                stands[p] = NONE;
                wears[p] = NONE;
                sneezed[p] = 0;
            }
        }

        /** False: the deed can't be. */
        private boolean act(Palette palette, Roll gallery, Roll day, int k) {
            int first = day.first[k];
            int second = day.second[k];
            switch (10 * DAYS + day.code[k]) {
                case HANG:
                    return gallery.has(first) && move(hangs, first, true, second);
                case TAKE:
                    return gallery.has(first) && move(hangs, first, false, NONE);
                case WEAR:
                    if (!palette.has(second)) {
                        return false;
                    }
                    wears[first] = second;
                    return true;
                case ENTER:
                    return move(stands, first, true, second);
                case LEAVE:
                    return move(stands, first, false, NONE);
                default:
                    passHour(palette, gallery);
                    return true;
            }
        }

        /** Moves one to a room (or to none), if it is (or is not) in none so far. */
        private static boolean move(int[] places, int k, boolean fromNone, int to) {
            if ((places[k] == NONE) != fromNone) {
                return false;
            }
            places[k] = to;
            return true;
        }

        private void passHour(Palette palette, Roll gallery) {
            fading = 0;
            for (int room = 0; room < ROOMS; room++) {
                int rash = rashOf(palette, gallery, room);
                allRash += rash;
                if (rash > gallery.limit && forbiddenHour == NONE) {
                    forbiddenHour = hours;
                    forbiddenRoom = room;
                }
                for (int p = 0; p < PEOPLE; p++) {
                    if (stands[p] == room) {
                        sneezed[p] += rash;
                    }
                }
            }
            for (int k = 0; k < gallery.size; k++) {
                if (holdsBit(fading, k)) {
                    areas[k]--;
                }
            }
            hours++;
        }

        private int rashOf(Palette palette, Roll gallery, int room) {
            gatherThings(gallery, room);
            int rash = 0;
            for (int k = 0; k < things; k++) {
                for (int j = 0; j < k; j++) {
                    int strength = palette.strengthOf(hues[k], hues[j]);
                    if (strength > 0) {
                        rash += strength;
                        markFading(k);
                        markFading(j);
                    }
                }
            }
            return rash;
        }

        private void gatherThings(Roll gallery, int room) {
            things = 0;
            for (int k = 0; k < gallery.size; k++) {
                if (hangs[k] == room && areas[k] > 0) {
                    addThing(gallery.first[k], k);
                }
            }
            for (int p = 0; p < PEOPLE; p++) {
                if (stands[p] == room && wears[p] != NONE) {
                    addThing(wears[p], NONE);
                }
            }
        }

        private void addThing(int hue, int picture) {
            if (things < hues.length) {
                hues[things] = hue;
                pictures[things] = picture;
                things++;
            }
        }

        private void markFading(int thing) {
            if (pictures[thing] != NONE) {
                fading |= 1 << pictures[thing];
            }
        }

        int answer(Palette palette, Roll gallery, int what) {
            switch (what) {
                case 0:
                    return hours;
                case 1:
                    return allRash;
                case 2:
                    return forbiddenHour;
                case 3:
                    return forbiddenRoom;
                default:
                    return what < 10 ? NO_SUCH : answerOf(palette, gallery, what / 10, what % 10);
            }
        }

        private int answerOf(Palette palette, Roll gallery, int group, int k) {
            switch (group) {
                case 1:
                    return gallery.has(k) ? hangs[k] : NO_SUCH;
                case 2:
                    return gallery.has(k) ? areas[k] : NO_SUCH;
                case 3:
                    return k < PEOPLE ? stands[k] : NO_SUCH;
                case 4:
                    return k < PEOPLE ? wears[k] : NO_SUCH;
                case 5:
                    return k < PEOPLE ? sneezed[k] : NO_SUCH;
                case 6:
                    return k < ROOMS ? rashOf(palette, gallery, k) : NO_SUCH;
                default:
                    return NO_SUCH;
            }
        }
    }

    /** Repaints rows of pictures, and mixes paints. */
    static final class Brush {
        private final int[] costs = new int[MOST_PICTURES * MOST_HUES];
        final int[] painted = new int[MOST_PICTURES];

        private final boolean[] seen = new boolean[COLOURS];
        private final int[] queue = new int[COLOURS + 1];
        private final int[] queuedUnits = new int[COLOURS + 1];
        private final int[] queuedFirst = new int[COLOURS + 1];
        private int queued;
        int units;
        int firstUnit;
        int colour;

        /** The least cost; NONE if no hues will do. */
        int repaint(Palette palette, Roll pictures) {
            for (int k = pictures.size - 1; k >= 0; k--) {
                for (int h = 0; h < palette.hues; h++) {
                    int behind = k + 1 < pictures.size ? leastCost(palette, k + 1, palette.foesOf(h)) : 0;
                    int own = costOf(palette, pictures, k, h);
                    costs[MOST_HUES * k + h] = behind == NONE ? NONE : own + behind;
                }
            }
            int cost = pictures.size == 0 ? 0 : leastCost(palette, 0, 0);
            int due = cost;
            int shunned = 0;
            for (int k = 0; k < pictures.size && cost != NONE; k++) {
                painted[k] = hueOfCost(palette, k, shunned, due);
                if (painted[k] == NONE) {
                    return NONE;
                }
                due -= costOf(palette, pictures, k, painted[k]);
                shunned = palette.foesOf(painted[k]);
            }
            return cost;
        }

        private static int costOf(Palette palette, Roll pictures, int k, int hue) {
            int was = pictures.first[k];
            int differences = 0;
            for (int p = 0; p < PARTS; p++) {
                differences += Math.abs(palette.part(hue, p) - palette.part(was, p));
            }
            return pictures.second[k] * differences;
        }

        /** The least cost of picture k and all behind it, without the hues that are shunned. */
        private int leastCost(Palette palette, int k, int shunned) {
            int least = NONE;
            for (int h = 0; h < palette.hues; h++) {
                int cost = costs[MOST_HUES * k + h];
                if (!holdsBit(shunned, h) && cost != NONE && (least == NONE || cost < least)) {
                    least = cost;
                }
            }
            return least;
        }

        private int hueOfCost(Palette palette, int k, int shunned, int due) {
            for (int h = 0; h < palette.hues; h++) {
                if (!holdsBit(shunned, h) && costs[MOST_HUES * k + h] == due) {
                    return h;
                }
            }
            return NONE;
        }

        /**
         * Finds the fewest units, or answers false. Colours are reached in the order of their first rows
         * of units, so the first one that is borne has the first row. The hue itself is no colour that is
         * seen: reached again, it has no pair.
         */
        boolean blend(Palette palette, int hue, int set) {
            colour = 100 * palette.part(hue, 0) + 10 * palette.part(hue, 1) + palette.part(hue, 2);
            units = 0;
            firstUnit = NONE;
            if ((palette.foesOf(hue) & set) == 0) {
                return true;
            }
            for (int k = 0; k < COLOURS; k++) {
                seen[k] = false;
            }
            queued = 0;
            enqueue(colour, 0, NONE);
            for (int k = 0; k < queued && k <= COLOURS; k++) {
                for (int h = 0; h < palette.hues; h++) {
                    if (pour(palette, k, h, set)) {
                        return true;
                    }
                }
            }
            return false;
        }

        private void enqueue(int newColour, int newUnits, int newFirst) {
            if (queued < queue.length) {
                queue[queued] = newColour;
                queuedUnits[queued] = newUnits;
                queuedFirst[queued] = newFirst;
                queued++;
            }
        }

        /** True: with a unit of that hue the k-th colour is borne by the set. */
        private boolean pour(Palette palette, int k, int hue, int set) {
            int red = (queue[k] / 100 + palette.part(hue, 0)) % TONES;
            int yellow = (queue[k] / 10 + palette.part(hue, 1)) % TONES;
            int blue = (queue[k] + palette.part(hue, 2)) % TONES;
            int poured = 100 * red + 10 * yellow + blue;
            if (seen[poured]) {
                return false;
            }
            seen[poured] = true;
            int first = queuedUnits[k] == 0 ? hue : queuedFirst[k];
            enqueue(poured, queuedUnits[k] + 1, first);
            if ((palette.foesOfColour(red, yellow, blue) & set) != 0) {
                return false;
            }
            colour = poured;
            units = queuedUnits[k] + 1;
            firstUnit = first;
            return true;
        }
    }

    /** Which single rules may be, by a palette and a sight; a slot for each two of them. */
    static final class Guess {
        private static final int MOST_SUM = 54;
        private static final int MOST_GAP = 9;
        private static final int CANDIDATES = 1570;
        private static final int SLOTS = EACH_SORT * EACH_SORT;
        private static final int UNKNOWN = -1;

        final int[] sizes = {UNKNOWN, UNKNOWN, UNKNOWN, UNKNOWN};
        final int[] tells = new int[SLOTS];
        private final int[] sorts = new int[SLOTS * CANDIDATES];
        private final int[] firsts = new int[SLOTS * CANDIDATES];
        private final int[] seconds = new int[SLOTS * CANDIDATES];
        /** How many of the sums that fit hold for two hues of that many parts together. */
        private final int[] sumsAt = new int[MOST_SUM + 2];

        void forget() {
            for (int slot = 0; slot < SLOTS; slot++) {
                sizes[slot] = UNKNOWN;
            }
        }

        void look(int slot, Palette palette, Roll sight) {
            if (sizes[slot] != UNKNOWN) {
                return;
            }
            sizes[slot] = 0;
            for (int low = 0; low <= MOST_SUM; low++) {
                for (int high = low; high <= MOST_SUM; high++) {
                    propose(slot, palette, sight, SUM, low, high);
                }
            }
            for (int p = 0; p < PARTS; p++) {
                for (int n = 1; n <= MOST_GAP; n++) {
                    propose(slot, palette, sight, GAP, p, n);
                }
            }
            for (int p = 0; p < PARTS; p++) {
                propose(slot, palette, sight, LIKE, p, NONE);
            }
            tells[slot] = mostTelling(slot, palette);
        }

        private void propose(int slot, Palette palette, Roll sight, int sort, int x, int y) {
            for (int k = 0; k < sight.size; k++) {
                boolean sneezed = sight.code[k] == SNEEZED % 10;
                if (palette.wouldHold(sort, x, y, sight.first[k], sight.second[k]) != sneezed) {
                    return;
                }
            }
            if (sizes[slot] < CANDIDATES) {
                int at = slot * CANDIDATES + sizes[slot];
                sorts[at] = sort;
                firsts[at] = x;
                seconds[at] = y;
                sizes[slot]++;
            }
        }

        int fitting(int slot, int k, int what) {
            if (k < 0 || k >= sizes[slot]) {
                return NO_SUCH;
            }
            switch (what) {
                case 0:
                    return sorts[slot * CANDIDATES + k];
                case 1:
                    return firsts[slot * CANDIDATES + k];
                case 2:
                    return seconds[slot * CANDIDATES + k];
                default:
                    return NO_SUCH;
            }
        }

        private int mostTelling(int slot, Palette palette) {
            int sums = countSums(slot);
            int best = NONE;
            int least = CANDIDATES + 1;
            for (int a = 0; a < palette.hues; a++) {
                for (int b = a + 1; b < palette.hues; b++) {
                    int held = sumsAt[palette.total(a) + palette.total(b)];
                    for (int k = sums; k < sizes[slot]; k++) {
                        int at = slot * CANDIDATES + k;
                        held += palette.wouldHold(sorts[at], firsts[at], seconds[at], a, b) ? 1 : 0;
                    }
                    int greater = Math.max(held, sizes[slot] - held);
                    if (greater < least) {
                        least = greater;
                        best = 10 * a + b;
                    }
                }
            }
            return best;
        }

        /** Fills sumsAt; answers how many sums there are: they stand before all others. */
        private int countSums(int slot) {
            for (int s = 0; s < sumsAt.length; s++) {
                sumsAt[s] = 0;
            }
            int sums = 0;
            for (int k = 0; k < sizes[slot]; k++) {
                int at = slot * CANDIDATES + k;
                if (sorts[at] == SUM) {
                    sumsAt[firsts[at]]++;
                    sumsAt[seconds[at] + 1]--;
                    sums++;
                }
            }
            for (int s = 1; s < sumsAt.length; s++) {
                sumsAt[s] += sumsAt[s - 1];
            }
            return sums;
        }
    }

    /** Guests round a table. */
    static final class Table {
        /** In how many ways guests k and all behind him can be dressed, if he wears a hue. */
        private final long[] dressed = new long[MOST_GUESTS * MOST_HUES];
        final int[] worn = new int[MOST_GUESTS];
        private final int[] drawnHues = new int[MOST_GUESTS];
        long total;
        int calmEvenings;
        int allStrengths;

        void seat(Palette palette, Roll guests) {
            total = 0;
            if (guests.size == 0) {
                total = 1;
                return;
            }
            for (int h = 0; h < palette.hues; h++) {
                if (holdsBit(guests.first[0], h)) {
                    long found = waysBegunBy(palette, guests, h);
                    if (total == 0 && found > 0) {
                        dressAtFirst(palette, guests, h);
                    }
                    total += found;
                }
            }
        }

        private long waysBegunBy(Palette palette, Roll guests, int hue) {
            int last = guests.size - 1;
            if (last == 0) {
                return 1;
            }
            for (int h = 0; h < palette.hues; h++) {
                dressed[MOST_HUES * last + h] = palette.strengthOf(h, hue) > 0 ? 0 : 1;
            }
            for (int k = last - 1; k > 0; k--) {
                for (int h = 0; h < palette.hues; h++) {
                    dressed[MOST_HUES * k + h] = waysBehind(palette, guests, k, h);
                }
            }
            return waysBehind(palette, guests, 0, hue);
        }

        private long waysBehind(Palette palette, Roll guests, int k, int hue) {
            int choice = guests.first[k + 1] & ~palette.foesOf(hue);
            long sum = 0;
            for (int h = 0; h < palette.hues; h++) {
                if (holdsBit(choice, h)) {
                    sum += dressed[MOST_HUES * (k + 1) + h];
                }
            }
            return sum;
        }

        private void dressAtFirst(Palette palette, Roll guests, int hue) {
            worn[0] = hue;
            for (int k = 1; k < guests.size; k++) {
                int choice = guests.first[k] & ~palette.foesOf(worn[k - 1]);
                for (int h = palette.hues - 1; h >= 0; h--) {
                    if (holdsBit(choice, h) && dressed[MOST_HUES * k + h] > 0) {
                        worn[k] = h;
                    }
                }
            }
        }

        /** There is a way. */
        int fewestHues(Palette palette, Roll guests) {
            int fewest = guests.size;
            for (int set = 1; set <= palette.all(); set++) {
                if (Integer.bitCount(set) < fewest && canDress(palette, guests, set)) {
                    fewest = Integer.bitCount(set);
                }
            }
            return fewest;
        }

        private static boolean canDress(Palette palette, Roll guests, int set) {
            for (int k = 0; k < guests.size; k++) {
                if ((guests.first[k] & set) == 0) {
                    return false;
                }
            }
            for (int h = 0; h < palette.hues; h++) {
                if (holdsBit(set & guests.first[0], h) && canDressFrom(palette, guests, set, h)) {
                    return true;
                }
            }
            return false;
        }

        private static boolean canDressFrom(Palette palette, Roll guests, int set, int hue) {
            int reached = 1 << hue;
            for (int k = 1; k < guests.size && reached != 0; k++) {
                int next = 0;
                for (int h = 0; h < palette.hues; h++) {
                    if (holdsBit(reached, h)) {
                        next |= set & guests.first[k] & ~palette.foesOf(h);
                    }
                }
                reached = next;
            }
            return (reached & ~palette.foesOf(hue)) != 0;
        }

        void dine(Palette palette, Roll guests, int seed, int evenings) {
            calmEvenings = 0;
            allStrengths = 0;
            int x = seed;
            for (int evening = 0; evening < evenings; evening++) {
                for (int k = 0; k < guests.size; k++) {
                    x = x * 1103515245 + 12345;
                    int owned = Integer.bitCount(guests.first[k]);
                    drawnHues[k] = owned == 0 ? 0 : hueAt(guests.first[k], (x >>> 16) % owned);
                }
                int strengths = strengthsRound(palette, guests.size);
                allStrengths += strengths;
                calmEvenings += strengths == 0 ? 1 : 0;
            }
        }

        private static int hueAt(int set, int k) {
            int left = set;
            for (int step = 0; step < k; step++) {
                left &= left - 1;
            }
            return Math.max(0, leastOf(left));
        }

        private int strengthsRound(Palette palette, int guests) {
            int sum = 0;
            for (int k = 1; k < guests; k++) {
                sum += palette.strengthOf(drawnHues[k - 1], drawnHues[k]);
            }
            if (guests > 2) {
                sum += palette.strengthOf(drawnHues[guests - 1], drawnHues[0]);
            }
            return sum;
        }
    }
}
