/** Promises 1 to 5, each sentence at its bounds: too small, too large, empty, full. */
final class EdgeTentTest {
    private static final Due DUE = new Due("EdgeTentTest");
    private static final int UNKNOWN = Due.UNKNOWN, OUTSIDE = Due.OUTSIDE,
            STATE = Due.STATE, FULL = Due.FULL;
    private static final int MIN = Integer.MIN_VALUE, MAX = Integer.MAX_VALUE;
    private static final String LARGEST = "123,954,301,442,850;n750,h301,l114";
    private static final int[] NO_CODES = {0, 127, -1, 128, 255, 256, 304, MIN, MAX, -2147483600, 65584};

    public static void main(String[] args) {
        newObject();
        letterComesBehind();
        howManyThePageHas();
        letterOutside();
        letterFull();
        pageIsEmpty();
        howManyItHad();
        blankLeavesTheTent();
        firstFault();
        behindThoseAhead();
        howManyIfNone();
        faultOfAFullPage();
        readAsTheTent();
        anotherIsGone();
        pageIsEmptyThen();
        tentIsNone();
        DUE.end();
    }

    private static void newObject() {
        DUE.sentence("1: No TENT");
        for (int what = 0; what <= 10; what++) DUE.due("count(" + what + ")", new LostTent().count(what), 0);
        LostTent x = new LostTent();
        DUE.due("fault()", x.fault(), 0);
        DUE.due("blank()", x.blank(), 0);
        DUE.due("forget()", x.forget(), 0);
        DUE.due("tent()", x.tent(), STATE);
        DUE.due("six()", x.six(), STATE);
        DUE.due("match(0)", x.match(0), STATE);
        DUE.due("mondays(1, 0, 0)", x.mondays(1, 0, 0), STATE);
        DUE.due("image()", x.image(), STATE);
        DUE.due("restore()", x.restore(), STATE);
        for (int number = -1; number <= 4; number++) {
            for (int what = 0; what <= 6; what++) {
                DUE.due("thing(" + number + ", " + what + ")", x.thing(number, what), UNKNOWN);
                DUE.due("claimer(" + number + ", " + what + ")", x.claimer(number, what), UNKNOWN);
            }
            DUE.due("as(" + number + ", 0)", x.as(number, 0), UNKNOWN);
            DUE.due("wrong(" + number + ", 0)", x.wrong(number, 0), UNKNOWN);
            DUE.due("give(0, " + number + ")", x.give(0, number), UNKNOWN);
            DUE.due("back(" + number + ")", x.back(number), UNKNOWN);
            DUE.due("remember(" + number + ", 0, 0)", x.remember(number, 0, 0), UNKNOWN);
            DUE.due("see(0, " + number + ", true)", x.see(0, number, true), UNKNOWN);
        }
    }

    private static void letterComesBehind() {
        DUE.sentence("2: A letter comes behind THE PAGE, by its code");
        LostTent x = Due.pitched("120,304;c512,w043");
        DUE.due("thing(0, 0)", x.thing(0, 0), 1);
        DUE.due("thing(0, 1)", x.thing(0, 1), 2);
        DUE.due("thing(1, 2)", x.thing(1, 2), 4);
        DUE.due("claimer(1, 2)", x.claimer(1, 2), 3);
        LostTent one = Due.written("ab");
        LostTent other = Due.written("ba");
        DUE.due("the order tells", one.digest() == other.digest() ? 1 : 0, 0);
        // 31 times, so from 1 to 126: what a letter adds to the digest is its code
        for (int code = 1; code < 126; code++) {
            LostTent lower = new LostTent();
            LostTent higher = new LostTent();
            lower.letter(code);
            higher.letter(code + 1);
            long once = 1;
            for (int i = 0; i < 11; i++) once *= 31;
            DUE.due("a code more than " + code, higher.digest() - lower.digest(), once);
        }
    }

    private static void howManyThePageHas() {
        DUE.sentence("2: how many THE PAGE has");
        LostTent x = new LostTent();
        for (int i = 1; i <= 36; i++) {
            DUE.due("letter " + i, x.letter('a'), i);
            DUE.due("count(9)", x.count(9), i);
        }
        LostTent tent = Due.pitched(LARGEST);
        DUE.due("the first behind tent()", tent.letter('a'), 1);
    }

    private static void letterOutside() {
        DUE.sentence("2: OUTSIDE: code (1 to 126)");
        LostTent x = new LostTent();
        for (int code : NO_CODES) {
            DUE.due("letter(" + code + ")", x.letter(code), OUTSIDE);
            DUE.due("count(9) behind it", x.count(9), 0);
        }
        DUE.due("letter(1)", x.letter(1), 1);
        DUE.due("letter(126)", x.letter(126), 2);
        DUE.due("letter(2)", x.letter(2), 3);
        DUE.due("letter(125)", x.letter(125), 4);
    }

    private static void letterFull() {
        DUE.sentence("2: FULL: above 36");
        LostTent x = new LostTent();
        for (int i = 1; i <= 35; i++) x.letter('a');
        DUE.due("the 36th", x.letter('b'), 36);
        long before = x.digest();
        DUE.due("the 37th", x.letter('c'), FULL);
        DUE.due("the 38th", x.letter(1), FULL);
        DUE.due("one that is OUTSIDE, too", x.letter(0), OUTSIDE);
        DUE.due("count(9)", x.count(9), 36);
        DUE.due("digest()", x.digest(), before);
        x.blank();
        DUE.due("behind blank()", x.letter('c'), 1);
    }

    private static void pageIsEmpty() {
        DUE.sentence("3: THE PAGE is empty");
        LostTent x = Due.written("000,");
        x.blank();
        DUE.due("count(9)", x.count(9), 0);
        DUE.due("fault()", x.fault(), 0);
        DUE.due("digest()", x.digest(), new LostTent().digest());
        DUE.due("tent()", x.tent(), STATE);
        DUE.due("letter()", x.letter('x'), 1);
        DUE.due("fault() of the new letter", x.fault(), 0);
        x.blank();
        Due.write(x, "954,301;w914");
        DUE.due("tent() of a new text", x.tent(), 2);
    }

    private static void howManyItHad() {
        DUE.sentence("3: how many letters it had");
        for (int letters = 0; letters <= 36; letters++) {
            LostTent x = Due.written("a".repeat(letters));
            DUE.due("blank() of " + letters, x.blank(), letters);
            DUE.due("blank() again", x.blank(), 0);
        }
        DUE.due("blank() of 37", Due.written("a".repeat(37)).blank(), 36);
        DUE.due("blank() behind tent()", Due.pitched(LARGEST).blank(), 0);
    }

    private static void blankLeavesTheTent() {
        DUE.sentence("3: THE PAGE, and nothing else, is empty");
        LostTent x = Due.pitched("312,402;n301");
        x.give(0, 0);
        x.see(0, 0, true);
        x.six();
        x.give(1, 0);
        x.image();
        long before = x.digest();
        Due.write(x, "12");
        DUE.due("blank()", x.blank(), 2);
        DUE.due("digest()", x.digest(), before);
        DUE.due("restore()", x.restore(), 1);
        DUE.due("count(10)", x.count(10), 1);
    }

    private static void faultOf(String text, int want) {
        DUE.due("fault() of " + text, Due.written(text).fault(), want);
    }

    private static void firstFault() {
        DUE.sentence("4: The place (from 0) of the first letter of THE PAGE that no TENT has there");
        faultOf("x", 0);
        faultOf("x00,000;c000", 0);
        faultOf("0x0,000;c000", 1);
        faultOf("00x,000;c000", 2);
        faultOf("000x000;c000", 3);
        faultOf("000,000xc000", 7);
        faultOf("000,000;C000", 8);
        faultOf("000,000;cx00", 9);
        faultOf("000,000;c0x0", 10);
        faultOf("000,000;c00x", 11);
        faultOf("000,000;c000x", 12);
        faultOf("0x0,0x0;cx00", 1);
        String whole = LARGEST;
        for (int place = 0; place < whole.length(); place++) {
            faultOf(whole.substring(0, place) + "!" + whole.substring(place + 1), place);
            faultOf(whole.substring(0, place) + "!", place);
        }
    }

    private static void behindThoseAhead() {
        DUE.sentence("4: behind those ahead of it");
        faultOf("000;", 3);
        faultOf("000,000;", 8);
        faultOf("000,000,000;", 12);
        faultOf("000,000,000,000,000,", 19);
        faultOf("000,000,000,000,000;", 20);
        faultOf("000,000;c000,c000,c000,", 22);
        faultOf("000,000,000,000,000;c000,c000,c000,", 34);
        faultOf("960,000;c000", 1);
        faultOf("690,000;c000", 1);
        faultOf("065", 1);
        faultOf("055", 2);
        faultOf("c000", 0);
        faultOf("000,c000", 4);
        faultOf("000,000;000", 8);
        // what comes behind does not mend it
        faultOf("000;000,000;c000", 3);
    }

    private static void howManyIfNone() {
        DUE.sentence("4: how many letters it has, if there is none");
        for (int length = 0; length <= LARGEST.length(); length++) faultOf(LARGEST.substring(0, length), length);
        faultOf("", 0);
        faultOf("954,954;c954", 12);
    }

    private static void faultOfAFullPage() {
        DUE.sentence("4: of THE PAGE, when it is full");
        faultOf(LARGEST + "00", 34);
        faultOf("0".repeat(36), 3);
        faultOf("000,000;c000,c000,c000" + "0".repeat(14), 22);
        LostTent x = Due.written(LARGEST + "00");
        long before = x.digest();
        x.fault();
        DUE.due("digest()", x.digest(), before);
    }

    private static void readAsTheTent() {
        DUE.sentence("5: THE PAGE is read as THE TENT: how many THINGS");
        DUE.due("the smallest", Due.read("000,000;c000"), 2);
        DUE.due("of three", Due.read("000,000,000;c000"), 3);
        DUE.due("of four", Due.read("000,000,000,000;c000"), 4);
        DUE.due("the largest", Due.read(LARGEST), 5);
        LostTent x = Due.pitched(LARGEST);
        String digits = "123954301442850";
        for (int i = 0; i < 15; i++) DUE.due("sign " + i, x.thing(i / 3, i % 3), digits.charAt(i) - '0');
        String told = "750301114";
        for (int i = 0; i < 9; i++) DUE.due("sign " + i + " of a claimer", x.claimer(i / 3, i % 3), told.charAt(i) - '0');
        int[] kinds = {4, 3, 2};
        for (int c = 0; c < 3; c++) DUE.due("kind of " + c, x.claimer(c, 3), kinds[c]);
        DUE.due("count(0)", x.count(0), 5);
        DUE.due("count(1)", x.count(1), 3);
    }

    private static void anotherIsGone() {
        DUE.sentence("5: another one is gone, with all that was");
        String[] texts = {LARGEST, "000,000;c000", "312,402,254;n301,w402", LARGEST};
        for (String text : texts) {
            LostTent x = Due.pitched(LARGEST);
            for (int i = 0; i < 3; i++) x.give(4 - i, i);
            x.six();
            x.remember(0, 0, 1);
            x.remember(1, 1, 1);
            x.remember(2, 2, 1);
            for (int i = 0; i < 8; i++) x.see(i % 5, i % 3, i % 2 == 0);
            for (int i = 0; i < 3; i++) x.give(i, i);
            x.image();
            Due.write(x, text);
            LostTent fresh = Due.pitched(text);
            DUE.due("tent()", x.tent(), fresh.count(0));
            DUE.due("count(10)", x.count(10), 2);
            for (int what = 0; what <= 9; what++) DUE.due("count(" + what + ")", x.count(what), fresh.count(what));
            for (int thing = 0; thing <= 5; thing++) {
                for (int what = 0; what <= 6; what++) DUE.due("thing()", x.thing(thing, what), fresh.thing(thing, what));
            }
            for (int c = 0; c <= 3; c++) {
                for (int what = 0; what <= 6; what++) DUE.due("claimer()", x.claimer(c, what), fresh.claimer(c, what));
            }
            DUE.due("restore()", x.restore(), STATE);
        }
    }

    private static void pageIsEmptyThen() {
        DUE.sentence("5: THE PAGE is empty then");
        LostTent x = Due.pitched(LARGEST);
        DUE.due("count(9)", x.count(9), 0);
        DUE.due("fault()", x.fault(), 0);
        DUE.due("tent() again", x.tent(), STATE);
        DUE.due("the tent still stands", x.count(0), 5);
        DUE.due("letter()", x.letter('0'), 1);
    }

    private static void tentIsNone() {
        DUE.sentence("5: STATE: it is none");
        for (int length = 0; length < LARGEST.length(); length++) {
            if (length == 24 || length == 29) continue;
            LostTent x = Due.pitched("312,402;n301");
            x.give(1, 0);
            x.see(0, 0, false);
            x.image();
            Due.write(x, LARGEST.substring(0, length));
            long before = x.digest();
            DUE.due("tent() of " + length + " letters", x.tent(), STATE);
            DUE.due("digest()", x.digest(), before);
            DUE.due("count(9)", x.count(9), length);
            DUE.due("count(10)", x.count(10), 1);
            DUE.due("thing(1, 3)", x.thing(1, 3), 0);
            DUE.due("restore()", x.restore(), 0);
        }
        DUE.due("tent() of a whole one and more", Due.read("000,000;c000,"), STATE);
        DUE.due("tent() of 36 letters", Due.read("000,000,000,000,000;c000,c000,c000,c"), STATE);
        DUE.due("tent() of a fault in the middle", Due.read("000,060;c000"), STATE);
        DUE.due("tent() of a fault ahead", Due.read(" 000,000;c000"), STATE);
        DUE.due("tent() of two tents", Due.read("000,000;c000000,000;c000"), STATE);
    }
}
