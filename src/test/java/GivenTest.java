/** Promises 10 to 14: give, back, remember, six, match. */
final class GivenTest {
    private static final Due DUE = new Due("GivenTest");
    private static final int[] NO_THING = {3, 4, -1, Integer.MIN_VALUE, Integer.MAX_VALUE};
    private static final int[] NO_CLAIMER = {2, 3, -1, Integer.MIN_VALUE, Integer.MAX_VALUE};

    public static void main(String[] args) {
        gives();
        backs();
        remembers();
        sixes();
        manyMondays();
        matches();
        matchOfRest();
        DUE.end();
    }

    private static void gives() {
        LostTent x = Due.pitched("312,402,254;n301,w402");
        DUE.due("give(2, 1), that does not fit", x.give(2, 1), 4);
        DUE.due("count(2)", x.count(2), 1);
        DUE.due("count(3)", x.count(3), 0);
        DUE.due("count(4)", x.count(4), 4);
        long before = x.digest();
        DUE.refused("give(2, 0) of a given one", x, before, x.give(2, 0), Due.STATE);
        DUE.refused("give(0, 1) to one who has one", x, before, x.give(0, 1), Due.STATE);
        DUE.refused("give(2, 1) again", x, before, x.give(2, 1), Due.STATE);
        for (int i = 0; i < 5; i++) {
            DUE.refused("give(" + NO_THING[i] + ", 1)", x, before, x.give(NO_THING[i], 1), Due.UNKNOWN);
            DUE.refused("give(2, " + NO_CLAIMER[i] + ")", x, before, x.give(2, NO_CLAIMER[i]), Due.UNKNOWN);
        }
        DUE.due("give(0, 0)", x.give(0, 0), 2);
        DUE.due("count(2) then", x.count(2), 2);
        DUE.due("count(3) then", x.count(3), 1);
        DUE.due("count(4) then", x.count(4), 6);
        DUE.due("thing(0, 3)", x.thing(0, 3), 0);
        DUE.due("claimer(1, 4)", x.claimer(1, 4), 2);
        x.remember(0, 0, 9);
        DUE.due("count(3) as he remembers now", x.count(3), 0);
        DUE.due("count(4) as he remembers now", x.count(4), 12);
    }

    private static void backs() {
        LostTent x = Due.pitched("312,402,254;n301,w402");
        x.give(2, 1);
        x.give(0, 0);
        long before = x.digest();
        DUE.refused("back(1) of one not given", x, before, x.back(1), Due.STATE);
        for (int none : NO_THING) DUE.refused("back(" + none + ")", x, before, x.back(none), Due.UNKNOWN);
        DUE.due("back(2)", x.back(2), 1);
        DUE.due("back(2) again", x.back(2), Due.STATE);
        DUE.due("thing(2, 3)", x.thing(2, 3), Due.NONE);
        DUE.due("claimer(1, 4)", x.claimer(1, 4), Due.NONE);
        DUE.due("count(2)", x.count(2), 1);
        DUE.due("back(0)", x.back(0), 0);
        DUE.due("give(2, 0) behind", x.give(2, 0), 3);
    }

    private static void remembers() {
        LostTent x = Due.pitched("312,402,254;n301,w402");
        DUE.due("remember(1, 0, 9)", x.remember(1, 0, 9), 4);
        DUE.due("remember(1, 0, 0)", x.remember(1, 0, 0), 9);
        DUE.due("remember(1, 1, 5)", x.remember(1, 1, 5), 0);
        DUE.due("remember(1, 2, 4)", x.remember(1, 2, 4), 2);
        DUE.due("remember(1, 2, 4) as he does", x.remember(1, 2, 4), 4);
        DUE.due("claimer(1, 0)", x.claimer(1, 0), 0);
        DUE.due("claimer(1, 1)", x.claimer(1, 1), 5);
        DUE.due("claimer(1, 2)", x.claimer(1, 2), 4);
        DUE.due("claimer(0, 0), another", x.claimer(0, 0), 3);
        DUE.due("wrong(0, 1) now", x.wrong(0, 1), 5);
        x.six();
        DUE.due("claimer(1, 1) the next Monday", x.claimer(1, 1), 5);
        long before = x.digest();
        for (int none : NO_CLAIMER) {
            DUE.refused("remember(" + none + ", 0, 0)", x, before, x.remember(none, 0, 0), Due.UNKNOWN);
            DUE.refused("remember(" + none + ", 3, 10)", x, before, x.remember(none, 3, 10), Due.UNKNOWN);
        }
        for (int wild : Due.WILD) {
            DUE.refused("remember(0, " + wild + ", 0)", x, before, x.remember(0, wild, 0), Due.OUTSIDE);
            for (int sign = 0; sign < 3; sign++) {
                DUE.refused("remember(0, sign, " + wild + ")", x, before, x.remember(0, sign, wild), Due.OUTSIDE);
            }
        }
        DUE.refused("remember(0, 3, 0)", x, before, x.remember(0, 3, 0), Due.OUTSIDE);
        DUE.refused("remember(0, 0, 10)", x, before, x.remember(0, 0, 10), Due.OUTSIDE);
        DUE.refused("remember(0, 1, 6)", x, before, x.remember(0, 1, 6), Due.OUTSIDE);
        DUE.refused("remember(0, 2, 5)", x, before, x.remember(0, 2, 5), Due.OUTSIDE);
    }

    private static void sixes() {
        LostTent x = Due.pitched("312,402,254,000;n301,w402");
        x.give(3, 1);
        x.see(0, 0, true);
        DUE.due("six()", x.six(), 3);
        DUE.due("count(2)", x.count(2), 0);
        DUE.due("count(5)", x.count(5), 1);
        DUE.due("count(6)", x.count(6), 3);
        DUE.due("count(7)", x.count(7), 1);
        DUE.due("count(8), seen still", x.count(8), 1);
        DUE.due("thing(3, 3)", x.thing(3, 3), Due.NONE);
        DUE.due("claimer(1, 4)", x.claimer(1, 4), Due.NONE);
        x.give(0, 0);
        x.give(1, 1);
        DUE.due("six() again", x.six(), 2);
        DUE.due("count(6) then", x.count(6), 5);
        DUE.due("count(7) then", x.count(7), 1);
        DUE.due("six() with nothing given", x.six(), 4);
        DUE.due("count(5) then", x.count(5), 3);
        DUE.due("count(6) at last", x.count(6), 9);
        DUE.due("count(7) at last", x.count(7), 3);
    }

    private static void manyMondays() {
        LostTent x = Due.pitched("312,402;n301");
        for (int i = 1; i <= 99; i++) DUE.due("six() " + i, x.six(), 2);
        DUE.due("count(5)", x.count(5), 99);
        x.give(0, 0);
        long before = x.digest();
        DUE.refused("six() above 99", x, before, x.six(), Due.FULL);
        DUE.due("thing(0, 3) still", x.thing(0, 3), 0);
        DUE.due("count(6)", x.count(6), 198);
        DUE.due("count(7)", x.count(7), 99);
    }

    private static void matchOf(LostTent x, String name, int... want) {
        int[] what = {0, 1, 10, 11, 12};
        for (int i = 0; i < 5; i++) DUE.due("match(" + what[i] + ") of " + name, x.match(what[i]), want[i]);
        long before = x.digest();
        for (int i = 0; i < 5; i++) DUE.due("match(" + what[i] + ") again", x.match(what[i]), want[i]);
        DUE.due("digest() behind match() of " + name, x.digest(), before);
    }

    private static void matchOfText(String text, int... want) {
        matchOf(Due.pitched(text), text, want);
    }

    private static void matches() {
        matchOfText("312,402,210,511;n301,w402,l210", 3, 2, 0, 1, 2);
        // nothing fits
        matchOfText("954,854;c000,w000,h000", 0, 0, -1, -1, -1);
        // as many as can be goes ahead of least wrong: he who is right takes the other
        matchOfText("500,600;c500,c300", 2, 3, 1, 0, -1);
        // least wrong together goes ahead of the first by numbers
        matchOfText("300,400;c400,c300", 2, 0, 1, 0, -1);
        // of like ones the first by numbers: claimer 0 gets thing 0
        matchOfText("300,300,300;c300,c300", 2, 0, 0, 1, -1);
        matchOfText("300,400;c300,c400", 2, 0, 0, 1, -1);
        matchOfText("300,400;c350,c450", 2, 4, 0, 1, -1);
        matchOfText("500,600;c500,c400", 2, 2, 0, 1, -1);
        // none ahead of all: claimer 0 goes without, where one must
        matchOfText("954,300;c300,c300", 1, 0, -1, 1, -1);
        matchOfText("954,300;c300,c300,c300", 1, 0, -1, -1, 1);
        matchOfText("301,300;c300,c300,c300", 2, 2, -1, 0, 1);
        // he who fits more wrongly goes without, be he the first or not
        matchOfText("954,300;c300,c400", 1, 0, 1, -1, -1);
        matchOfText("300,300,300,300,300;c300", 1, 0, 0, -1, -1);
        matchOfText("954,954,954,954,300;c300", 1, 0, 4, -1, -1);
        matchOfText("954,954,954,300,400;h003,l400,n800", 2, 3, -1, 4, 0);
        LostTent x = Due.pitched("312,402;n301");
        long before = x.digest();
        for (int wild : Due.WILD) DUE.refused("match(" + wild + ")", x, before, x.match(wild), Due.OUTSIDE);
        for (int what = 2; what <= 9; what++) DUE.refused("match(" + what + ")", x, before, x.match(what), Due.OUTSIDE);
        DUE.refused("match(13)", x, before, x.match(13), Due.OUTSIDE);
    }

    private static void matchOfRest() {
        LostTent x = Due.pitched("300,300,400;c300,c400,c300");
        matchOf(x, "all", 3, 0, 0, 2, 1);
        x.give(0, 1);
        matchOf(x, "the rest", 2, 1, 1, -1, 2);
        x.give(2, 0);
        matchOf(x, "what is left", 1, 0, -1, -1, 1);
        x.give(1, 2);
        matchOf(x, "nothing", 0, 0, -1, -1, -1);
        x.back(0);
        matchOf(x, "what is back", 1, 1, -1, 0, -1);
        x.six();
        matchOf(x, "the next Monday", 3, 0, 0, 2, 1);
        x.remember(1, 0, 9);
        matchOf(x, "as they remember", 2, 0, 0, -1, 1);
    }
}
