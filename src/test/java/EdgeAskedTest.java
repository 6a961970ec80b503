/** Promises 6 to 9, what is asked of things and claimers, each sentence at its bounds. */
final class EdgeAskedTest {
    private static final Due DUE = new Due("EdgeAskedTest");
    private static final int NONE = Due.NONE, UNKNOWN = Due.UNKNOWN, OUTSIDE = Due.OUTSIDE;
    private static final int MIN = Integer.MIN_VALUE, MAX = Integer.MAX_VALUE;
    private static final int[] NO_WHATS = {-1, 7, 8, MIN, MAX, -101, 100, 256, 65536};

    public static void main(String[] args) {
        signsOfAThing();
        toWhomItIsGiven();
        whomItFits();
        yearsOfAThing();
        showOfAThing();
        thingRefused();
        signsOfAClaimer();
        whatHeWasGiven();
        whichThingsFitHim();
        signForAClaimer();
        claimerRefused();
        takenAsAKind();
        noneSuch();
        asRefused();
        byHowMuch();
        wrongRefused();
        DUE.end();
    }

    private static void signsOfAThing() {
        DUE.sentence("6: Of a THING: what = 0 to 2 that SIGN");
        LostTent x = Due.pitched("954,000,123,301,210;c000");
        int[] signs = {9, 5, 4, 0, 0, 0, 1, 2, 3, 3, 0, 1, 2, 1, 0};
        for (int i = 0; i < 15; i++) DUE.due("thing(" + i / 3 + ", " + i % 3 + ")", x.thing(i / 3, i % 3), signs[i]);
        x.give(0, 0);
        x.remember(0, 0, 5);
        x.see(0, 0, true);
        x.six();
        for (int i = 0; i < 3; i++) DUE.due("thing(0, " + i + ") whatever was", x.thing(0, i), signs[i]);
    }

    private static void toWhomItIsGiven() {
        DUE.sentence("6: 3 to whom it is GIVEN (NONE)");
        LostTent x = Due.pitched("000,000,000,000,000;c000,c000,c000");
        for (int claimer = 0; claimer < 3; claimer++) {
            for (int thing = 0; thing < 5; thing++) {
                DUE.due("ahead", x.thing(thing, 3), NONE);
                x.give(thing, claimer);
                for (int t = 0; t < 5; t++) DUE.due("thing(" + t + ", 3)", x.thing(t, 3), t == thing ? claimer : NONE);
                x.back(thing);
                DUE.due("behind", x.thing(thing, 3), NONE);
            }
        }
        x.give(4, 2);
        x.six();
        DUE.due("the next Monday", x.thing(4, 3), NONE);
    }

    private static void whomItFits() {
        DUE.sentence("6: 4 whom it FITS, as bits");
        LostTent x = Due.pitched("300,301;c000,c000,c000");
        for (int bits = 0; bits < 8; bits++) {
            for (int c = 0; c < 3; c++) x.remember(c, 0, (bits >> c & 1) == 1 ? 3 : 9);
            DUE.due("thing(0, 4)", x.thing(0, 4), bits);
        }
        DUE.due("thing(1, 4), that all fit by 2", x.thing(1, 4), 7);
        x.give(0, 1);
        DUE.due("when it is given", x.thing(0, 4), 7);
        DUE.due("whom nobody fits", Due.pitched("954,954;c000,w000,l000").thing(0, 4), 0);
        DUE.due("the only one", Due.pitched("954,954;c954").thing(1, 4), 1);
    }

    private static void yearsOfAThing() {
        DUE.sentence("6: 5 YEARS, as bits");
        LostTent x = Due.pitched("933,033;c433,l033,l933");
        DUE.due("all", x.thing(0, 5), 1023);
        x.see(0, 1, true);
        DUE.due("the first", x.thing(0, 5), 1);
        x.see(0, 2, true);
        DUE.due("none", x.thing(0, 5), 0);
        x.see(1, 2, true);
        DUE.due("the last", x.thing(1, 5), 512);
        x.forget();
        DUE.due("all again", x.thing(1, 5), 1023);
    }

    private static void showOfAThing() {
        DUE.sentence("6: 6 SHOW (NONE)");
        LostTent x = Due.pitched("933,033;h000,l533,c433");
        DUE.due("the last", x.thing(0, 6), 2);
        x.remember(2, 1, 0);
        x.remember(2, 2, 0);
        DUE.due("as he remembers now", x.thing(0, 6), 1);
        x.remember(1, 1, 0);
        x.remember(1, 2, 0);
        DUE.due("the first, when all are like", x.thing(0, 6), 0);
        x.see(0, 1, true);
        DUE.due("none", x.thing(0, 6), NONE);
        DUE.due("another", x.thing(1, 6), 0);
        LostTent given = Due.pitched("933,033;h000,l533,c433");
        for (int i = 0; i < 2; i++) given.give(i, i);
        DUE.due("when it is given", given.thing(0, 6), 2);
    }

    private static void thingRefused() {
        DUE.sentence("6: UNKNOWN; OUTSIDE");
        for (int things = 2; things <= 5; things++) {
            LostTent x = Due.pitched("000,000,000,000,000".substring(0, things * 4 - 1) + ";c000");
            for (int none : new int[] {-1, things, things + 1, MIN, MAX}) {
                DUE.due("thing(" + none + ", 0) of " + things, x.thing(none, 0), UNKNOWN);
                DUE.due("thing(" + none + ", 7) of " + things, x.thing(none, 7), UNKNOWN);
                DUE.due("thing(" + none + ", -1) of " + things, x.thing(none, -1), UNKNOWN);
            }
            for (int what : NO_WHATS) DUE.due("thing(0, " + what + ")", x.thing(0, what), OUTSIDE);
            for (int what : NO_WHATS) DUE.due("thing of the last", x.thing(things - 1, what), OUTSIDE);
            DUE.due("thing(last, 6)", x.thing(things - 1, 6), 0);
        }
    }

    private static void signsOfAClaimer() {
        DUE.sentence("7: Of a CLAIMER: what = 0 to 2 that SIGN, 3 KIND");
        LostTent x = Due.pitched("000,000;n954,c000,h123");
        int[] signs = {9, 5, 4, 4, 0, 0, 0, 0, 1, 2, 3, 3};
        for (int i = 0; i < 12; i++) DUE.due("claimer(" + i / 4 + ", " + i % 4 + ")", x.claimer(i / 4, i % 4), signs[i]);
        x.remember(1, 0, 9);
        x.remember(1, 1, 5);
        x.remember(1, 2, 4);
        int[] then = {9, 5, 4, 0};
        for (int i = 0; i < 4; i++) DUE.due("claimer(1, " + i + ") then", x.claimer(1, i), then[i]);
    }

    private static void whatHeWasGiven() {
        DUE.sentence("7: 4 what he was GIVEN (NONE)");
        LostTent x = Due.pitched("000,000,000,000,000;c000,c000,c000");
        for (int claimer = 0; claimer < 3; claimer++) {
            for (int thing = 0; thing < 5; thing++) {
                DUE.due("ahead", x.claimer(claimer, 4), NONE);
                x.give(thing, claimer);
                for (int c = 0; c < 3; c++) DUE.due("claimer(" + c + ", 4)", x.claimer(c, 4), c == claimer ? thing : NONE);
                x.back(thing);
                DUE.due("behind", x.claimer(claimer, 4), NONE);
            }
        }
        x.give(0, 0);
        x.six();
        DUE.due("the next Monday", x.claimer(0, 4), NONE);
    }

    private static void whichThingsFitHim() {
        DUE.sentence("7: 5 which THINGS FIT him, as bits");
        String[] things = {"954", "000"};
        for (int bits = 0; bits < 32; bits++) {
            StringBuilder text = new StringBuilder();
            for (int thing = 0; thing < 5; thing++) text.append(thing == 0 ? "" : ",").append(things[bits >> thing & 1]);
            LostTent x = Due.pitched(text + ";c000,l000");
            DUE.due("claimer(0, 5) of " + text, x.claimer(0, 5), bits);
            x.give(0, 0);
            x.give(4, 1);
            DUE.due("given ones, too", x.claimer(0, 5), bits);
            x.remember(0, 0, 9);
            x.remember(0, 1, 5);
            x.remember(0, 2, 4);
            DUE.due("as he remembers now", x.claimer(0, 5), 31 - bits);
        }
    }

    private static void signForAClaimer() {
        DUE.sentence("7: 6 SIGN (NONE)");
        DUE.due("the first", Due.pitched("010,110;h000").claimer(0, 6), 0);
        DUE.due("the last", Due.pitched("300,301,302;n300").claimer(0, 6), 2);
        DUE.due("none", Due.pitched("954,954;c000").claimer(0, 6), NONE);
        LostTent x = Due.pitched("000,000;c000");
        x.give(0, 0);
        DUE.due("of the other", x.claimer(0, 6), 0);
        LostTent both = Due.pitched("000,000;c000,c000,c000");
        both.give(0, 0);
        both.give(1, 1);
        DUE.due("when all is given", both.claimer(2, 6), NONE);
    }

    private static void claimerRefused() {
        DUE.sentence("7: UNKNOWN; OUTSIDE");
        for (int claimers = 1; claimers <= 3; claimers++) {
            LostTent x = Due.pitched("000,000,000,000,000;" + "c000,c000,c000".substring(0, claimers * 5 - 1));
            for (int none : new int[] {-1, claimers, claimers + 1, MIN, MAX}) {
                DUE.due("claimer(" + none + ", 0) of " + claimers, x.claimer(none, 0), UNKNOWN);
                DUE.due("claimer(" + none + ", 7) of " + claimers, x.claimer(none, 7), UNKNOWN);
                DUE.due("claimer(" + none + ", -1) of " + claimers, x.claimer(none, -1), UNKNOWN);
            }
            for (int what : NO_WHATS) DUE.due("claimer(0, " + what + ")", x.claimer(0, what), OUTSIDE);
            for (int what : NO_WHATS) DUE.due("claimer of the last", x.claimer(claimers - 1, what), OUTSIDE);
            DUE.due("claimer(last, 6)", x.claimer(claimers - 1, 6), 0);
        }
    }

    private static void takenAsAKind() {
        DUE.sentence("8: A CLAIMER taken as a KIND: his own number (not that of the KIND)");
        LostTent x = Due.pitched("000,000;n000,h000,l000");
        DUE.due("as(0, 4)", x.as(0, 4), 0);
        DUE.due("as(0, 1)", x.as(0, 1), 0);
        DUE.due("as(0, 0)", x.as(0, 0), 0);
        DUE.due("as(1, 3)", x.as(1, 3), 1);
        DUE.due("as(1, 0)", x.as(1, 0), 1);
        DUE.due("as(2, 2)", x.as(2, 2), 2);
        DUE.due("as(2, 0)", x.as(2, 0), 2);
        long before = x.digest();
        x.as(0, 1);
        DUE.due("digest() behind it", x.digest(), before);
    }

    private static void noneSuch() {
        DUE.sentence("8: NONE: he is none such (the cast fails)");
        String[] such = {"10000", "11000", "10100", "10010", "11001"};
        for (int own = 0; own < 5; own++) {
            LostTent x = Due.pitched("000,000;c000," + "cwlhn".charAt(own) + "000");
            for (int kind = 0; kind < 5; kind++) {
                DUE.due("as(1, " + kind + ") of " + own, x.as(1, kind), such[own].charAt(kind) == '1' ? 1 : NONE);
            }
        }
    }

    private static void asRefused() {
        DUE.sentence("8: UNKNOWN; OUTSIDE");
        for (int claimers = 1; claimers <= 3; claimers++) {
            LostTent x = Due.pitched("000,000,000,000;" + "c000,n000,w000".substring(0, claimers * 5 - 1));
            for (int none : new int[] {-1, claimers, claimers + 1, MIN, MAX}) {
                DUE.due("as(" + none + ", 0)", x.as(none, 0), UNKNOWN);
                DUE.due("as(" + none + ", 5)", x.as(none, 5), UNKNOWN);
                DUE.due("as(" + none + ", -1)", x.as(none, -1), UNKNOWN);
            }
            for (int kind : new int[] {-1, 5, 6, MIN, MAX}) DUE.due("as(0, " + kind + ")", x.as(0, kind), OUTSIDE);
            DUE.due("as(0, 0)", x.as(0, 0), 0);
            DUE.due("as(0, 4)", x.as(0, 4), NONE);
        }
    }

    private static void byHowMuch() {
        DUE.sentence("9: By how much a THING is WRONG for a CLAIMER");
        LostTent x = Due.pitched("954,000,300,451,212;l000,c300,n451");
        int[][] want = {{31, 10, 7}, {0, 3, 6}, {9, 0, 3}, {16, 5, 0}, {10, 5, 4}};
        for (int thing = 0; thing < 5; thing++) {
            for (int c = 0; c < 3; c++) DUE.due("wrong(" + thing + ", " + c + ")", x.wrong(thing, c), want[thing][c]);
        }
        x.give(0, 0);
        DUE.due("of a given one", x.wrong(0, 0), 31);
        DUE.due("of a given one for another", x.wrong(0, 1), 10);
        x.remember(0, 0, 9);
        DUE.due("as he remembers now", x.wrong(0, 0), 4);
    }

    private static void wrongRefused() {
        DUE.sentence("9: UNKNOWN: thing, claimer");
        for (int things = 2; things <= 5; things++) {
            for (int claimers = 1; claimers <= 3; claimers++) {
                LostTent x = Due.pitched("000,000,000,000,000".substring(0, things * 4 - 1) + ";"
                        + "c000,c000,c000".substring(0, claimers * 5 - 1));
                for (int none : new int[] {-1, things, MIN, MAX}) {
                    DUE.due("wrong(" + none + ", 0)", x.wrong(none, 0), UNKNOWN);
                }
                for (int none : new int[] {-1, claimers, MIN, MAX}) {
                    DUE.due("wrong(0, " + none + ")", x.wrong(0, none), UNKNOWN);
                }
                DUE.due("wrong() of the last", x.wrong(things - 1, claimers - 1), 0);
            }
        }
    }
}
