/**
 * The lost children's tent: things by their signs, claimers by what they
 * remember, what fits whom, and what is given, given back, left and seen.
 * The promises that it keeps are numbered in the document (DOC.md).
 */
public final class LostTent {
    public static final int NONE = -1, UNKNOWN = -101, OUTSIDE = -102, STATE = -103, FULL = -104;

    private static final int MOST_CODE = 126, MOST_LETTERS = 36;
    private static final int LEAST_THINGS = 2, MOST_THINGS = 5, MOST_CLAIMERS = 3;
    private static final int MOST_SEEN = 8, MOST_MONDAYS = 99, MOST_TIMES = 60;

    private static final int SIGNS = 3, YEAR = 0, PLACE = 1, LIKE = 2;
    private static final int YEARS = 10, ALL_YEARS = (1 << YEARS) - 1;
    private static final int[] SIGN_VALUES = {YEARS, 6, 5};

    /** The letters of the kinds, each at the place of its kind's number; so are the rows below. */
    private static final String KIND_LETTERS = "cwlhn";
    private static final int KINDS = 5, CLAIMER = 0, WIDOW = 1, NURSE = 4;
    private static final int[] WRONG_A_YEAR = {1, 1, 3, 0, 1};
    private static final int[] WRONG_BY_PLACE = {2, 0, 2, 0, 0};
    private static final int[] WRONG_BY_LIKE = {2, 2, 2, 3, 2};
    private static final int[] FITS_UP_TO = {2, 2, 2, 2, 4};

    private final Page page;
    private final Tent pitched;
    private final Matching matching;
    private final Visits visits;
    private int tentsRead;

    public LostTent() {
        page = new Page();
        pitched = new Tent();
        matching = new Matching();
        visits = new Visits();
        tentsRead = 0;
    }

    // ---- the tent

    public int letter(int code) {
        if (code < 1 || code > MOST_CODE) return OUTSIDE;
        if (!page.append(code)) return FULL;
        return page.length();
    }

    public int blank() {
        int had = page.length();
        page.clear();
        return had;
    }

    public int fault() {
        return page.firstFault();
    }

    public int tent() {
        if (!page.isTent()) return STATE;
        pitched.readFrom(page);
        page.clear();
        tentsRead++;
        return pitched.things();
    }

    public int thing(int thing, int what) {
        if (!pitched.hasThing(thing)) return UNKNOWN;
        switch (what) {
            case YEAR: case PLACE: case LIKE: return pitched.signOf(thing, what);
            case 3: return pitched.register().holderOf(thing);
            case 4: return pitched.claimersFitted(thing);
            case 5: return pitched.yearsOf(thing);
            case 6: return pitched.claimerToShow(thing, pitched.yearsOf(thing));
            default: return OUTSIDE;
        }
    }

    public int claimer(int claimer, int what) {
        if (!pitched.hasClaimer(claimer)) return UNKNOWN;
        switch (what) {
            case YEAR: case PLACE: case LIKE: return pitched.register().memoryOf(claimer, what);
            case 3: return pitched.kindOf(claimer);
            case 4: return pitched.register().thingOf(claimer);
            case 5: return pitched.thingsFitting(claimer);
            case 6: return pitched.signToAsk(pitched.thingsFitting(claimer) & pitched.thingsNotGiven());
            default: return OUTSIDE;
        }
    }

    public int as(int claimer, int kind) {
        if (!pitched.hasClaimer(claimer)) return UNKNOWN;
        if (!isBelow(kind, KINDS)) return OUTSIDE;
        return isKind(pitched.kindOf(claimer), kind) ? claimer : NONE;
    }

    public int wrong(int thing, int claimer) {
        if (!pitched.hasBoth(thing, claimer)) return UNKNOWN;
        return pitched.wrongOf(thing, claimer);
    }

    // ---- what is given

    public int give(int thing, int claimer) {
        if (!pitched.hasBoth(thing, claimer)) return UNKNOWN;
        Register register = pitched.register();
        if (register.holderOf(thing) != NONE || register.thingOf(claimer) != NONE) return STATE;
        register.hand(thing, claimer);
        return pitched.wrongOf(thing, claimer);
    }

    public int back(int thing) {
        if (!pitched.hasThing(thing)) return UNKNOWN;
        int holder = pitched.register().holderOf(thing);
        if (holder == NONE) return STATE;
        pitched.register().hand(thing, NONE);
        return holder;
    }

    public int remember(int claimer, int sign, int value) {
        if (!pitched.hasClaimer(claimer)) return UNKNOWN;
        if (!isBelow(sign, SIGNS) || !isBelow(value, entry(SIGN_VALUES, sign))) return OUTSIDE;
        int before = pitched.register().memoryOf(claimer, sign);
        pitched.register().setMemory(claimer, sign, value);
        return before;
    }

    public int six() {
        if (!pitched.stands()) return STATE;
        if (pitched.register().mondaysOver() >= MOST_MONDAYS) return FULL;
        int given = pitched.given();
        int left = pitched.things() - given;
        pitched.register().endMonday(left, pitched.claimers() - given);
        return left;
    }

    // ---- what would be

    public int match(int what) {
        if (!isMatchQuestion(what)) return OUTSIDE;
        if (!pitched.stands()) return STATE;
        matching.solve(pitched);
        return matching.tell(what);
    }

    // ---- what is seen

    public int see(int thing, int claimer, boolean fitted) {
        if (!pitched.hasBoth(thing, claimer)) return UNKNOWN;
        if (!pitched.register().noteSeen(thing, claimer, fitted)) return FULL;
        return pitched.register().seenInAll();
    }

    public int forget() {
        int had = pitched.register().seenInAll();
        pitched.register().clearSeen();
        return had;
    }

    public int mondays(int times, int seed, int what) {
        if (times < 1 || times > MOST_TIMES || seed < 0 || what < 0 || what > 2) return OUTSIDE;
        if (!pitched.stands()) return STATE;
        visits.play(pitched, times, seed);
        return visits.tell(what);
    }

    // ---- what is told of all

    public int image() {
        if (!pitched.stands()) return STATE;
        pitched.keepImage();
        return pitched.register().mondaysOver();
    }

    public int restore() {
        if (!pitched.hasImage()) return STATE;
        pitched.goOnFromImage();
        return pitched.register().mondaysOver();
    }

    public int count(int what) {
        switch (what) {
            case 0: return pitched.things();
            case 1: return pitched.claimers();
            case 2: return pitched.given();
            case 3: return pitched.givenThatFit();
            case 4: return pitched.givenWrong();
            case 5: return pitched.register().mondaysOver();
            case 6: return pitched.register().thingsLeft();
            case 7: return pitched.register().claimersLeft();
            case 8: return pitched.register().seenInAll();
            case 9: return page.length();
            case 10: return tentsRead;
            default: return OUTSIDE;
        }
    }

    public long digest() {
        long hash = 1087L;
        for (int thing = 0; thing < pitched.things(); thing++) {
            for (int what = 0; what <= 6; what++) hash = mixed(hash, thing(thing, what));
        }
        for (int claimer = 0; claimer < pitched.claimers(); claimer++) {
            for (int what = 0; what <= 6; what++) hash = mixed(hash, claimer(claimer, what));
            for (int thing = 0; thing < pitched.things(); thing++) {
                hash = mixed(hash, pitched.wrongOf(thing, claimer));
            }
        }
        if (pitched.stands()) {
            // solved once and asked five times: match() would solve it for every question
            matching.solve(pitched);
            for (int what = 0; what <= 12; what++) {
                if (isMatchQuestion(what)) hash = mixed(hash, matching.tell(what));
            }
        }
        for (int place = 0; place < page.length(); place++) hash = mixed(hash, page.codeAt(place));
        for (int what = 0; what <= 10; what++) hash = mixed(hash, count(what));
        return hash;
    }

    private static long mixed(long hash, int number) {
        return 31L * hash + number;
    }

    private static boolean isMatchQuestion(int what) {
        return what == 0 || what == 1 || what >= 10 && what <= 12;
    }

    // ---- kinds, and rows that are safe to ask

    private static boolean isKind(int own, int kind) {
        return kind == own || kind == CLAIMER || kind == WIDOW && own == NURSE;
    }

    private static int wrongBy(int kind, int years, boolean otherPlace, boolean otherLike) {
        int sum = entry(WRONG_A_YEAR, kind) * years;
        if (otherPlace) sum += entry(WRONG_BY_PLACE, kind);
        if (otherLike) sum += entry(WRONG_BY_LIKE, kind);
        return sum;
    }

    private static boolean isFit(int kind, int wrongness) {
        return wrongness <= entry(FITS_UP_TO, kind);
    }

    private static boolean isBelow(int number, int bound) {
        return number >= 0 && number < bound;
    }

    private static boolean isIn(int bits, int number) {
        return (bits & 1 << number) != 0;
    }

    private static int entry(int[] row, int index) {
        return index >= 0 && index < row.length ? row[index] : 0;
    }

    private static void put(int[] row, int index, int value) {
        if (index >= 0 && index < row.length) row[index] = value;
    }

    private static void copy(int[] from, int[] to) {
        for (int i = 0; i < from.length && i < to.length; i++) to[i] = from[i];
    }

    /** The page: the letters that have come, and how far they go as a tent's text. */
    private static final class Page {
        /** A thing takes three digits and the sign behind them; a claimer has a letter ahead. */
        private static final int THING_WIDTH = 4, CLAIMER_WIDTH = 5;

        private final int[] codes;
        private int length;

        Page() {
            codes = new int[MOST_LETTERS];
            length = 0;
        }

        int length() {
            return length;
        }

        int codeAt(int place) {
            return entry(codes, place);
        }

        boolean append(int code) {
            if (length >= MOST_LETTERS) return false;
            put(codes, length, code);
            length++;
            return true;
        }

        void clear() {
            length = 0;
        }

        int firstFault() {
            int behind = firstClaimer();
            for (int place = 0; place < length; place++) {
                int code = entry(codes, place);
                boolean good = place < behind
                        ? isGoodAmongThings(place, code)
                        : isGoodAmongClaimers(place - behind, code);
                if (!good) return place;
            }
            return length;
        }

        boolean isTent() {
            int behind = firstClaimer();
            return behind < length && firstFault() == length
                    && (length - behind) % CLAIMER_WIDTH == CLAIMER_WIDTH - 1;
        }

        int things() {
            return firstClaimer() / THING_WIDTH;
        }

        int claimers() {
            return (length - firstClaimer() + 1) / CLAIMER_WIDTH;
        }

        int thingSign(int thing, int sign) {
            return entry(codes, thing * THING_WIDTH + sign) - '0';
        }

        int claimerKind(int claimer) {
            return kindOfLetter(entry(codes, firstClaimer() + claimer * CLAIMER_WIDTH));
        }

        int claimerSign(int claimer, int sign) {
            return entry(codes, firstClaimer() + claimer * CLAIMER_WIDTH + 1 + sign) - '0';
        }

        /** The place behind the first semicolon; how many letters there are, if there is none. */
        private int firstClaimer() {
            for (int place = 0; place < length; place++) {
                if (entry(codes, place) == ';') return place + 1;
            }
            return length;
        }

        private static boolean isGoodAmongThings(int place, int code) {
            int thing = place / THING_WIDTH;
            int part = place % THING_WIDTH;
            if (part < SIGNS) return isSign(part, code);
            return code == ',' && thing + 1 < MOST_THINGS || code == ';' && thing + 1 >= LEAST_THINGS;
        }

        private static boolean isGoodAmongClaimers(int place, int code) {
            int claimer = place / CLAIMER_WIDTH;
            int part = place % CLAIMER_WIDTH;
            if (part == 0) return kindOfLetter(code) != NONE;
            if (part <= SIGNS) return isSign(part - 1, code);
            return code == ',' && claimer + 1 < MOST_CLAIMERS;
        }

        private static boolean isSign(int sign, int code) {
            return isBelow(code - '0', entry(SIGN_VALUES, sign));
        }

        private static int kindOfLetter(int code) {
            return KIND_LETTERS.indexOf((char) code);
        }
    }

    /** What changes while a tent stands, and so what an image keeps. */
    private static final class Register {
        private final int[] holders;
        private final int[] memories;
        private final int[] seenThings;
        private final int[] seenClaimers;
        private final int[] seenFitted;
        private int seenInAll;
        private int mondaysOver;
        private int thingsLeft;
        private int claimersLeft;

        Register() {
            holders = new int[MOST_THINGS];
            memories = new int[MOST_CLAIMERS * SIGNS];
            seenThings = new int[MOST_SEEN];
            seenClaimers = new int[MOST_SEEN];
            seenFitted = new int[MOST_SEEN];
            begin();
        }

        void begin() {
            takeAllBack();
            seenInAll = 0;
            mondaysOver = 0;
            thingsLeft = 0;
            claimersLeft = 0;
        }

        void copyFrom(Register other) {
            copy(other.holders, holders);
            copy(other.memories, memories);
            copy(other.seenThings, seenThings);
            copy(other.seenClaimers, seenClaimers);
            copy(other.seenFitted, seenFitted);
            seenInAll = other.seenInAll;
            mondaysOver = other.mondaysOver;
            thingsLeft = other.thingsLeft;
            claimersLeft = other.claimersLeft;
        }

        int holderOf(int thing) {
            return entry(holders, thing);
        }

        int thingOf(int claimer) {
            for (int thing = 0; thing < MOST_THINGS; thing++) {
                if (entry(holders, thing) == claimer) return thing;
            }
            return NONE;
        }

        void hand(int thing, int claimer) {
            put(holders, thing, claimer);
        }

        int memoryOf(int claimer, int sign) {
            return entry(memories, claimer * SIGNS + sign);
        }

        void setMemory(int claimer, int sign, int value) {
            put(memories, claimer * SIGNS + sign, value);
        }

        void endMonday(int things, int claimers) {
            thingsLeft += things;
            claimersLeft += claimers;
            mondaysOver++;
            takeAllBack();
        }

        int mondaysOver() {
            return mondaysOver;
        }

        int thingsLeft() {
            return thingsLeft;
        }

        int claimersLeft() {
            return claimersLeft;
        }

        boolean noteSeen(int thing, int claimer, boolean fitted) {
            if (seenInAll >= MOST_SEEN) return false;
            put(seenThings, seenInAll, thing);
            put(seenClaimers, seenInAll, claimer);
            put(seenFitted, seenInAll, fitted ? 1 : 0);
            seenInAll++;
            return true;
        }

        void clearSeen() {
            seenInAll = 0;
        }

        int seenInAll() {
            return seenInAll;
        }

        int seenThing(int note) {
            return entry(seenThings, note);
        }

        int seenClaimer(int note) {
            return entry(seenClaimers, note);
        }

        boolean seenFitted(int note) {
            return entry(seenFitted, note) == 1;
        }

        private void takeAllBack() {
            for (int thing = 0; thing < MOST_THINGS; thing++) put(holders, thing, NONE);
        }
    }

    /** A tent as its text told it, with its register and the register's image; no things: no tent. */
    private static final class Tent {
        private final int[] thingSigns;
        private final int[] kinds;
        private final Register register;
        private final Register image;
        private int things;
        private int claimers;
        private boolean imageKept;

        Tent() {
            thingSigns = new int[MOST_THINGS * SIGNS];
            kinds = new int[MOST_CLAIMERS];
            register = new Register();
            image = new Register();
            things = 0;
            claimers = 0;
            imageKept = false;
        }

        void readFrom(Page page) {
            things = page.things();
            claimers = page.claimers();
            imageKept = false;
            register.begin();
            for (int thing = 0; thing < things; thing++) {
                for (int sign = 0; sign < SIGNS; sign++) {
                    put(thingSigns, thing * SIGNS + sign, page.thingSign(thing, sign));
                }
            }
            for (int claimer = 0; claimer < claimers; claimer++) {
                put(kinds, claimer, page.claimerKind(claimer));
                for (int sign = 0; sign < SIGNS; sign++) {
                    register.setMemory(claimer, sign, page.claimerSign(claimer, sign));
                }
            }
        }

        boolean stands() {
            return things > 0;
        }

        int things() {
            return things;
        }

        int claimers() {
            return claimers;
        }

        boolean hasThing(int thing) {
            return isBelow(thing, things);
        }

        boolean hasClaimer(int claimer) {
            return isBelow(claimer, claimers);
        }

        boolean hasBoth(int thing, int claimer) {
            return hasThing(thing) && hasClaimer(claimer);
        }

        Register register() {
            return register;
        }

        void keepImage() {
            image.copyFrom(register);
            imageKept = true;
        }

        boolean hasImage() {
            return imageKept;
        }

        void goOnFromImage() {
            register.copyFrom(image);
        }

        int signOf(int thing, int sign) {
            return entry(thingSigns, thing * SIGNS + sign);
        }

        int kindOf(int claimer) {
            return entry(kinds, claimer);
        }

        int wrongOf(int thing, int claimer) {
            return wrongIfLostIn(signOf(thing, YEAR), thing, claimer);
        }

        boolean fits(int thing, int claimer) {
            return isFit(kindOf(claimer), wrongIfLostIn(signOf(thing, YEAR), thing, claimer));
        }

        int claimersFitted(int thing) {
            int bits = 0;
            for (int claimer = 0; claimer < claimers; claimer++) {
                if (fits(thing, claimer)) bits |= 1 << claimer;
            }
            return bits;
        }

        int thingsFitting(int claimer) {
            int bits = 0;
            for (int thing = 0; thing < things; thing++) {
                if (fits(thing, claimer)) bits |= 1 << thing;
            }
            return bits;
        }

        int thingsNotGiven() {
            int bits = 0;
            for (int thing = 0; thing < things; thing++) {
                if (register.holderOf(thing) == NONE) bits |= 1 << thing;
            }
            return bits;
        }

        int given() {
            return things - Integer.bitCount(thingsNotGiven());
        }

        int givenThatFit() {
            int sum = 0;
            for (int thing = 0; thing < things; thing++) {
                int holder = register.holderOf(thing);
                if (holder != NONE && fits(thing, holder)) sum++;
            }
            return sum;
        }

        int givenWrong() {
            int sum = 0;
            for (int thing = 0; thing < things; thing++) {
                int holder = register.holderOf(thing);
                if (holder != NONE) sum += wrongOf(thing, holder);
            }
            return sum;
        }

        /** The sign by which fewest of these things, told as bits, are left at worst. */
        int signToAsk(int among) {
            if (among == 0) return NONE;
            int best = NONE;
            int fewest = 0;
            for (int sign = 0; sign < SIGNS; sign++) {
                int worst = mostAlike(among, sign);
                if (best == NONE || worst < fewest) {
                    best = sign;
                    fewest = worst;
                }
            }
            return best;
        }

        private int mostAlike(int among, int sign) {
            int most = 0;
            for (int thing = 0; thing < things; thing++) {
                if (isIn(among, thing)) most = Math.max(most, howManyAlike(among, sign, signOf(thing, sign)));
            }
            return most;
        }

        private int howManyAlike(int among, int sign, int value) {
            int sum = 0;
            for (int thing = 0; thing < things; thing++) {
                if (isIn(among, thing) && signOf(thing, sign) == value) sum++;
            }
            return sum;
        }

        /** The years, as bits, in which all that is seen of the thing would be so. */
        int yearsOf(int thing) {
            int years = ALL_YEARS;
            for (int note = 0; note < register.seenInAll(); note++) {
                if (register.seenThing(note) == thing) {
                    int fitting = yearsFitting(thing, register.seenClaimer(note));
                    years &= register.seenFitted(note) ? fitting : ~fitting;
                }
            }
            return years;
        }

        /** The claimer by whose fitting or not fewest of these years, told as bits, are left at worst. */
        int claimerToShow(int thing, int among) {
            if (among == 0) return NONE;
            int best = NONE;
            int fewest = 0;
            for (int claimer = 0; claimer < claimers; claimer++) {
                int fitting = yearsFitting(thing, claimer);
                int worst = Math.max(Integer.bitCount(among & fitting), Integer.bitCount(among & ~fitting));
                if (best == NONE || worst < fewest) {
                    best = claimer;
                    fewest = worst;
                }
            }
            return best;
        }

        private int yearsFitting(int thing, int claimer) {
            int years = 0;
            for (int year = 0; year < YEARS; year++) {
                if (isFit(kindOf(claimer), wrongIfLostIn(year, thing, claimer))) years |= 1 << year;
            }
            return years;
        }

        private int wrongIfLostIn(int year, int thing, int claimer) {
            return wrongBy(kindOf(claimer),
                    Math.abs(year - register.memoryOf(claimer, YEAR)),
                    signOf(thing, PLACE) != register.memoryOf(claimer, PLACE),
                    signOf(thing, LIKE) != register.memoryOf(claimer, LIKE));
        }
    }

    /** The best way to give what is not given yet: most pairs, then least wrong, then first. */
    private static final class Matching {
        /** How wrong each thing is for each claimer, NONE where it must not be given to him. */
        private final int[] prices;
        private final int[] gets;
        private int things;
        private int pairs;
        private int wrongTogether;

        Matching() {
            prices = new int[MOST_CLAIMERS * MOST_THINGS];
            gets = new int[MOST_CLAIMERS];
            things = 0;
            pairs = 0;
            wrongTogether = 0;
        }

        int tell(int what) {
            if (what == 0) return pairs;
            if (what == 1) return wrongTogether;
            return entry(gets, what - 10);
        }

        /** Tries all ways in the order of their numbers, so that of like ones the first stays. */
        void solve(Tent tent) {
            setPrices(tent);
            pairs = NONE;
            for (int first = NONE; first < things; first++) {
                if (!may(0, first)) continue;
                for (int second = NONE; second < things; second++) {
                    if (!may(1, second) || isTwice(first, second)) continue;
                    for (int third = NONE; third < things; third++) {
                        if (!may(2, third) || isTwice(first, third) || isTwice(second, third)) continue;
                        keepIfBetter(first, second, third);
                    }
                }
            }
        }

        private void setPrices(Tent tent) {
            things = tent.things();
            for (int claimer = 0; claimer < MOST_CLAIMERS; claimer++) {
                boolean waits = tent.hasClaimer(claimer) && tent.register().thingOf(claimer) == NONE;
                for (int thing = 0; thing < MOST_THINGS; thing++) {
                    boolean offered = waits && tent.hasThing(thing)
                            && tent.register().holderOf(thing) == NONE && tent.fits(thing, claimer);
                    put(prices, claimer * MOST_THINGS + thing,
                            offered ? tent.wrongOf(thing, claimer) : NONE);
                }
            }
        }

        private boolean may(int claimer, int thing) {
            return thing == NONE || price(claimer, thing) != NONE;
        }

        private int price(int claimer, int thing) {
            return entry(prices, claimer * MOST_THINGS + thing);
        }

        private static boolean isTwice(int one, int other) {
            return one == other && one != NONE;
        }

        private void keepIfBetter(int first, int second, int third) {
            int number = oneIfGiven(first) + oneIfGiven(second) + oneIfGiven(third);
            int sum = priceIfGiven(0, first) + priceIfGiven(1, second) + priceIfGiven(2, third);
            if (number < pairs || number == pairs && sum >= wrongTogether) return;
            pairs = number;
            wrongTogether = sum;
            put(gets, 0, first);
            put(gets, 1, second);
            put(gets, 2, third);
        }

        private static int oneIfGiven(int thing) {
            return thing == NONE ? 0 : 1;
        }

        private int priceIfGiven(int claimer, int thing) {
            return thing == NONE ? 0 : price(claimer, thing);
        }
    }

    /** Mondays by a seed, as they would be: nothing in the tent changes by them. */
    private static final class Visits {
        private long seed;
        private int fitting;
        private int wrongTogether;

        Visits() {
            seed = 0;
            fitting = 0;
            wrongTogether = 0;
        }

        int tell(int what) {
            if (what == 0) return fitting;
            if (what == 1) return wrongTogether;
            return (int) seed;
        }

        void play(Tent tent, int times, int firstSeed) {
            seed = firstSeed;
            fitting = 0;
            wrongTogether = 0;
            for (int time = 0; time < times; time++) {
                int kind = tent.kindOf(draw(tent.claimers()));
                int year = draw(YEARS);
                int place = draw(entry(SIGN_VALUES, PLACE));
                int like = draw(entry(SIGN_VALUES, LIKE));
                for (int thing = 0; thing < tent.things(); thing++) {
                    addIfFit(kind, wrongBy(kind, Math.abs(tent.signOf(thing, YEAR) - year),
                            tent.signOf(thing, PLACE) != place, tent.signOf(thing, LIKE) != like));
                }
            }
        }

        private void addIfFit(int kind, int wrongness) {
            if (!isFit(kind, wrongness)) return;
            fitting++;
            wrongTogether += wrongness;
        }

        private int draw(int choices) {
            seed = (1103515245L * seed + 12345L) % (1L << 31);
            return choices > 0 ? (int) (seed / 65536L % choices) : 0;
        }
    }
}
