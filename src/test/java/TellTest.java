/** Promises 6 to 9: thing, claimer, as, wrong. */
final class TellTest {
    private static final Due DUE = new Due("TellTest");

    public static void main(String[] args) {
        wrongs();
        fits();
        thingsTold();
        claimersTold();
        signs();
        casts();
        refusals();
        DUE.end();
    }

    private static void wrongOf(String thing, String claimer, int want) {
        LostTent x = Due.pitched("000," + thing + ";c000," + claimer);
        DUE.due("wrong() of " + thing + " for " + claimer, x.wrong(1, 1), want);
    }

    private static void wrongs() {
        for (char kind : "cwlhn".toCharArray()) wrongOf("333", kind + "333", 0);
        wrongOf("733", "c333", 4);
        wrongOf("333", "c733", 4);
        wrongOf("333", "c343", 2);
        wrongOf("333", "c334", 2);
        wrongOf("954", "c000", 13);
        wrongOf("000", "c954", 13);
        wrongOf("733", "w333", 4);
        wrongOf("333", "w303", 0);
        wrongOf("333", "w330", 2);
        wrongOf("954", "w000", 11);
        wrongOf("733", "l333", 12);
        wrongOf("333", "l343", 2);
        wrongOf("333", "l334", 2);
        wrongOf("954", "l000", 31);
        wrongOf("733", "h333", 0);
        wrongOf("333", "h303", 0);
        wrongOf("333", "h332", 3);
        wrongOf("954", "h000", 3);
        wrongOf("733", "n333", 4);
        wrongOf("333", "n303", 0);
        wrongOf("333", "n330", 2);
        wrongOf("954", "n000", 11);
    }

    private static void fitOf(String thing, String claimer, boolean want) {
        LostTent x = Due.pitched("000," + thing + ";c954," + claimer);
        DUE.due("thing(1, 4) of " + thing + " for " + claimer, x.thing(1, 4) >> 1, want ? 1 : 0);
        DUE.due("claimer(1, 5) of " + thing + " for " + claimer, x.claimer(1, 5) >> 1, want ? 1 : 0);
    }

    private static void fits() {
        fitOf("533", "c333", true);
        fitOf("633", "c333", false);
        fitOf("333", "c343", true);
        fitOf("433", "c343", false);
        fitOf("334", "c343", false);
        fitOf("533", "w303", true);
        fitOf("633", "w303", false);
        fitOf("333", "l334", true);
        fitOf("433", "l333", false);
        fitOf("903", "h053", true);
        fitOf("333", "h334", false);
        fitOf("733", "n303", true);
        fitOf("833", "n303", false);
        fitOf("533", "n302", true);
        fitOf("633", "n302", false);
    }

    private static void thingsTold() {
        // wrong: of 312 for n301 2, for w402 1, for l210 7; of 402 for n301 3, w402 0, l210 10
        LostTent x = Due.pitched("312,402,254;n301,w402,l210");
        int[] signs = {3, 1, 2, 4, 0, 2, 2, 5, 4};
        for (int i = 0; i < 9; i++) DUE.due("sign " + i, x.thing(i / 3, i % 3), signs[i]);
        DUE.due("thing(0, 3)", x.thing(0, 3), Due.NONE);
        DUE.due("thing(0, 4)", x.thing(0, 4), 3);
        DUE.due("thing(1, 4)", x.thing(1, 4), 3);
        DUE.due("thing(2, 4)", x.thing(2, 4), 1);
        DUE.due("thing(2, 5)", x.thing(2, 5), 1023);
        x.give(0, 2);
        x.give(1, 0);
        DUE.due("thing(0, 3) when given", x.thing(0, 3), 2);
        DUE.due("thing(1, 3) when given", x.thing(1, 3), 0);
        DUE.due("thing(2, 3) still", x.thing(2, 3), Due.NONE);
        DUE.due("thing(0, 4) when given", x.thing(0, 4), 3);
        x.remember(0, 0, 9);
        DUE.due("thing(0, 4) as he remembers now", x.thing(0, 4), 2);
    }

    private static void claimersTold() {
        LostTent x = Due.pitched("312,402,254;n301,w402,l210");
        int[] signs = {3, 0, 1, 4, 0, 2, 2, 1, 0};
        for (int i = 0; i < 9; i++) DUE.due("sign " + i + " of a claimer", x.claimer(i / 3, i % 3), signs[i]);
        DUE.due("claimer(0, 3)", x.claimer(0, 3), 4);
        DUE.due("claimer(1, 3)", x.claimer(1, 3), 1);
        DUE.due("claimer(2, 3)", x.claimer(2, 3), 2);
        DUE.due("claimer(0, 4)", x.claimer(0, 4), Due.NONE);
        DUE.due("claimer(0, 5)", x.claimer(0, 5), 7);
        DUE.due("claimer(1, 5)", x.claimer(1, 5), 3);
        DUE.due("claimer(2, 5)", x.claimer(2, 5), 0);
        DUE.due("claimer(2, 6), whom nothing fits", x.claimer(2, 6), Due.NONE);
        x.give(1, 0);
        x.give(0, 1);
        DUE.due("claimer(0, 4) when given", x.claimer(0, 4), 1);
        DUE.due("claimer(1, 4) when given", x.claimer(1, 4), 0);
        DUE.due("claimer(0, 5) of given ones, too", x.claimer(0, 5), 7);
        DUE.due("claimer(1, 6) when both are given", x.claimer(1, 6), Due.NONE);
        DUE.due("claimer(0, 6) of the one that is not", x.claimer(0, 6), 0);
        LostTent all = Due.pitched("000,000;c000,h000");
        DUE.due("kind of a claimer", all.claimer(0, 3), 0);
        DUE.due("kind of a child", all.claimer(1, 3), 3);
    }

    private static void signs() {
        // all fit a child who remembers the like, and their likes are alike: 4 at worst
        DUE.due("SIGN by years", Due.pitched("010,110,210,310;h000").claimer(0, 6), 0);
        DUE.due("SIGN by places", Due.pitched("010,020,030,110;h000").claimer(0, 6), 1);
        DUE.due("SIGN of like ones", Due.pitched("110,110,110;h000").claimer(0, 6), 0);
        // years 2 1, places 3, likes 1 1 1
        DUE.due("SIGN by likes", Due.pitched("330,331,432;n331").claimer(0, 6), 2);
        // by years at worst 2, by places at worst 2: the least; of like ones
        DUE.due("SIGN, years and places alike", Due.pitched("110,120,210,220;h000").claimer(0, 6), 0);
        // 111 does not fit him: of the rest the places tell most
        DUE.due("SIGN of those that fit", Due.pitched("100,110,211;h000").claimer(0, 6), 1);
        LostTent x = Due.pitched("100,110,220;h000");
        DUE.due("SIGN ahead", x.claimer(0, 6), 1);
        x.give(1, 0);
        DUE.due("SIGN of those not given", x.claimer(0, 6), 0);
        x.give(0, 0);
        DUE.due("SIGN of the one left", x.claimer(0, 6), 0);
        x.remember(0, 2, 4);
        DUE.due("SIGN when none fits", x.claimer(0, 6), Due.NONE);
    }

    private static void casts() {
        boolean[][] is = {{true, false, false, false, false}, {true, true, false, false, false},
            {true, false, true, false, false}, {true, false, false, true, false}, {true, true, false, false, true}};
        for (int own = 0; own < 5; own++) {
            LostTent x = Due.pitched("000,000;c000,h000," + "cwlhn".charAt(own) + "000");
            for (int kind = 0; kind < 5; kind++) {
                DUE.due("as(2, " + kind + ") of kind " + own, x.as(2, kind), is[own][kind] ? 2 : Due.NONE);
            }
            DUE.due("as(1, 3)", x.as(1, 3), 1);
            DUE.due("as(0, 3)", x.as(0, 3), Due.NONE);
            DUE.due("as(0, 0)", x.as(0, 0), 0);
        }
    }

    private static void refusals() {
        LostTent x = Due.pitched("312,402,254;n301,w402");
        long before = x.digest();
        int[] noThing = {3, 5, -1, Integer.MIN_VALUE, Integer.MAX_VALUE};
        int[] noClaimer = {2, 3, -1, Integer.MIN_VALUE, Integer.MAX_VALUE};
        for (int i = 0; i < 5; i++) {
            DUE.refused("thing(" + noThing[i] + ", 0)", x, before, x.thing(noThing[i], 0), Due.UNKNOWN);
            DUE.refused("thing(" + noThing[i] + ", 7)", x, before, x.thing(noThing[i], 7), Due.UNKNOWN);
            DUE.refused("claimer(" + noClaimer[i] + ", 0)", x, before, x.claimer(noClaimer[i], 0), Due.UNKNOWN);
            DUE.refused("claimer(" + noClaimer[i] + ", 7)", x, before, x.claimer(noClaimer[i], 7), Due.UNKNOWN);
            DUE.refused("as(" + noClaimer[i] + ", 0)", x, before, x.as(noClaimer[i], 0), Due.UNKNOWN);
            DUE.refused("as(" + noClaimer[i] + ", 5)", x, before, x.as(noClaimer[i], 5), Due.UNKNOWN);
            DUE.refused("wrong(" + noThing[i] + ", 0)", x, before, x.wrong(noThing[i], 0), Due.UNKNOWN);
            DUE.refused("wrong(0, " + noClaimer[i] + ")", x, before, x.wrong(0, noClaimer[i]), Due.UNKNOWN);
        }
        for (int wild : Due.WILD) {
            DUE.refused("thing(0, " + wild + ")", x, before, x.thing(0, wild), Due.OUTSIDE);
            DUE.refused("claimer(0, " + wild + ")", x, before, x.claimer(0, wild), Due.OUTSIDE);
            DUE.refused("as(0, " + wild + ")", x, before, x.as(0, wild), Due.OUTSIDE);
        }
        DUE.refused("thing(0, 7)", x, before, x.thing(0, 7), Due.OUTSIDE);
        DUE.refused("claimer(0, 7)", x, before, x.claimer(0, 7), Due.OUTSIDE);
        DUE.refused("as(0, 5)", x, before, x.as(0, 5), Due.OUTSIDE);
    }
}
