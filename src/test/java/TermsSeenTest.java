import java.math.BigInteger;

/** Terms 3: SEEN, YEARS, SHOW, MONDAYS and DRAWS, each sentence at its bounds. */
final class TermsSeenTest {
    private static final Due DUE = new Due("TermsSeenTest");
    private static final int NONE = Due.NONE, ALL = 1023;

    public static void main(String[] args) {
        eightAtMost();
        theYearIsNotKnown();
        fittedOrNot();
        yearsFromNoneToNine();
        byItsOtherSigns();
        allThatIsSeen();
        claimerToShow();
        ofTheseYears();
        theLeastClaimer();
        nobodyToShow();
        soManyTimes();
        aClaimerByADraw();
        drawsInPlaceOfHisOwn();
        thingsOfAll();
        howManyFit();
        wrongTogether();
        nextSeed();
        restOfTheSeed();
        roundedDown();
        DUE.end();
    }

    private static void eightAtMost() {
        DUE.sentence("Terms 3: SEEN (8 at most)");
        LostTent x = Due.pitched("000,000;c000,h000");
        for (int i = 1; i <= 8; i++) DUE.due("see() " + i, x.see(i % 2, i % 2, true), i);
        DUE.due("the ninth", x.see(0, 0, true), Due.FULL);
        DUE.due("count(8)", x.count(8), 8);
        LostTent last = Due.pitched("500,000;h000,c500");
        for (int i = 1; i <= 7; i++) last.see(0, 0, true);
        last.see(0, 1, true);
        DUE.due("YEARS by the eighth", last.thing(0, 5), Due.years(3, 7));
        last.see(0, 1, false);
        DUE.due("YEARS behind the ninth", last.thing(0, 5), Due.years(3, 7));
    }

    private static void theYearIsNotKnown() {
        DUE.sentence("Terms 3: a THING, of which the YEAR is not known");
        for (int year = 0; year <= 9; year++) {
            LostTent x = Due.pitched(year + "33,000;c433");
            DUE.due("YEARS of " + year + " ahead", x.thing(0, 5), ALL);
            x.see(0, 0, true);
            DUE.due("YEARS of " + year, x.thing(0, 5), Due.years(2, 6));
        }
    }

    private static void yearsBy(String thing, String claimer, boolean fitted, int want) {
        LostTent x = Due.pitched(thing + ",000;" + claimer);
        x.see(0, 0, fitted);
        DUE.due("YEARS of " + thing + " by " + claimer + ", " + fitted, x.thing(0, 5), want);
    }

    private static void fittedOrNot() {
        DUE.sentence("Terms 3: FITTED a CLAIMER, or did not");
        yearsBy("933", "c433", true, Due.years(2, 6));
        yearsBy("933", "c433", false, ALL - Due.years(2, 6));
        yearsBy("933", "n433", true, Due.years(0, 8));
        yearsBy("933", "n433", false, Due.years(9, 9));
        yearsBy("933", "h003", true, ALL);
        yearsBy("933", "h003", false, 0);
        yearsBy("933", "h002", true, 0);
        yearsBy("933", "h002", false, ALL);
    }

    private static void yearsFromNoneToNine() {
        DUE.sentence("Terms 3: YEARS (0 to 9) in which it can have been lost, as bits");
        yearsBy("533", "c033", true, Due.years(0, 2));
        yearsBy("533", "c033", false, Due.years(3, 9));
        yearsBy("533", "c933", true, Due.years(7, 9));
        yearsBy("533", "c933", false, Due.years(0, 6));
        yearsBy("533", "l033", true, 1);
        yearsBy("533", "l933", true, 512);
        yearsBy("533", "l933", false, 511);
        yearsBy("533", "n533", true, Due.years(1, 9));
        yearsBy("533", "n533", false, 1);
        DUE.due("YEARS of what is not seen", Due.pitched("000,000;c000").thing(1, 5), ALL);
    }

    private static void byItsOtherSigns() {
        DUE.sentence("Terms 3: YEARS, by its other SIGNS");
        yearsBy("933", "c443", true, Due.years(4, 4));
        yearsBy("933", "c434", true, Due.years(4, 4));
        yearsBy("933", "c444", true, 0);
        yearsBy("933", "c444", false, ALL);
        yearsBy("933", "w403", true, Due.years(2, 6));
        yearsBy("933", "w404", true, Due.years(4, 4));
        yearsBy("933", "l443", true, Due.years(4, 4));
        yearsBy("933", "l444", true, 0);
        yearsBy("933", "n404", true, Due.years(2, 6));
    }

    private static void allThatIsSeen() {
        DUE.sentence("Terms 3: so that all that is SEEN of it is so");
        LostTent x = Due.pitched("933,033;c233,c533,l433");
        x.see(0, 0, true);
        DUE.due("by one", x.thing(0, 5), Due.years(0, 4));
        x.see(0, 1, true);
        DUE.due("by two", x.thing(0, 5), Due.years(3, 4));
        DUE.due("of another nothing is seen", x.thing(1, 5), ALL);
        x.see(1, 2, true);
        DUE.due("of the other", x.thing(1, 5), Due.years(4, 4));
        DUE.due("still", x.thing(0, 5), Due.years(3, 4));
        x.see(0, 2, false);
        DUE.due("by three", x.thing(0, 5), Due.years(3, 3));
        x.see(0, 2, true);
        DUE.due("when both are seen", x.thing(0, 5), 0);
        x.forget();
        DUE.due("when nothing is", x.thing(0, 5), ALL);
    }

    private static void showOf(String text, int want) {
        DUE.due("thing(0, 6) of " + text, Due.pitched(text).thing(0, 6), want);
    }

    private static void claimerToShow() {
        DUE.sentence("Terms 3: to which CLAIMER to show it, so that fewest are left at worst, by whether it FITS");
        // c433 parts them 5 and 5, c133 4 and 6, c033 3 and 7, l533 1 and 9, n533 9 and 1, h000 0 and 10
        showOf("933,000;h000,l533,c433", 2);
        showOf("933,000;l533,c433,h000", 1);
        showOf("933,000;c433,l533,h000", 0);
        showOf("933,000;c033,c133", 1);
        showOf("933,000;l533,c033", 1);
        showOf("933,000;n533,c033", 1);
        showOf("933,000;h000,n533", 1);
        showOf("933,000;h003,l533", 1);
        showOf("933,000;h003", 0);
        showOf("933,000;c444", 0);
    }

    private static void ofTheseYears() {
        DUE.sentence("Terms 3: SHOW: that fewest of these are left");
        LostTent x = Due.pitched("933,000;c433,c133,l333");
        DUE.due("of all years", x.thing(0, 6), 0);
        x.see(0, 0, true);
        // of 2 to 6: all fit c433, 2 and 3 fit c133, 3 fits l333
        DUE.due("of 2 to 6", x.thing(0, 6), 1);
        x.see(0, 1, false);
        // of 4 to 6: all fit c433, none fits the others
        DUE.due("of 4 to 6", x.thing(0, 6), 0);
        x.forget();
        x.see(0, 1, true);
        // of 0 to 3: 2 and 3 fit c433, all fit c133, 3 fits l333
        DUE.due("of 0 to 3", x.thing(0, 6), 0);
        x.see(0, 0, true);
        DUE.due("of 2 and 3", x.thing(0, 6), 2);
        DUE.due("of another", x.thing(1, 6), 0);
    }

    private static void theLeastClaimer() {
        DUE.sentence("Terms 3: SHOW: of like ones the least");
        showOf("933,000;c433,c433,c433", 0);
        showOf("933,000;h000,c433,c533", 1);
        showOf("933,000;l333,n533,h000", 0);
        showOf("933,000;h000,n533,l333", 1);
        LostTent x = Due.pitched("933,000;h000,l533,c433");
        x.see(0, 1, true);
        DUE.due("of one year all are like", x.thing(0, 6), 0);
    }

    private static void nobodyToShow() {
        DUE.sentence("Terms 3: SHOW: none, if there are none");
        LostTent x = Due.pitched("933,000;c433,h003");
        x.see(0, 1, true);
        DUE.due("of all years", x.thing(0, 6), 0);
        x.see(0, 1, false);
        DUE.due("YEARS", x.thing(0, 5), 0);
        DUE.due("of no year", x.thing(0, 6), NONE);
        DUE.due("of another", x.thing(1, 6), 0);
        x.forget();
        DUE.due("behind forget()", x.thing(0, 6), 0);
    }

    private static void mondaysOf(String text, int times, int seed, int things, int wrong, int seedThen) {
        LostTent x = Due.pitched(text);
        String call = text + ": mondays(" + times + ", " + seed + ", ";
        DUE.due(call + "0)", x.mondays(times, seed, 0), things);
        DUE.due(call + "1)", x.mondays(times, seed, 1), wrong);
        DUE.due(call + "2)", x.mondays(times, seed, 2), seedThen);
    }

    // Behind the seed 1 the draws are 16838, 5758, 10113, 17515, and 31051, 5627, 23010, 7419: of one
    // claimer one with 8, 3, 0 comes, and one with 7, 0, 4; of three claimer 2, and then claimer 1.
    private static final int BEHIND_FOUR = 1147902781, BEHIND_EIGHT = 486256185;

    private static void soManyTimes() {
        DUE.sentence("Terms 3: so many times");
        mondaysOf("830,704;c000", 1, 1, 1, 0, BEHIND_FOUR);
        mondaysOf("830,704;c000", 2, 1, 2, 0, BEHIND_EIGHT);
        mondaysOf("954,704;c000", 1, 1, 0, 0, BEHIND_FOUR);
        mondaysOf("954,704;c000", 2, 1, 1, 0, BEHIND_EIGHT);
        LostTent x = Due.pitched("000,000;c000");
        for (int times = 1; times <= 60; times++) {
            DUE.due("seed behind " + times, x.mondays(times, 5, 2), seedBehind(5, 4 * times));
        }
    }

    private static void aClaimerByADraw() {
        DUE.sentence("Terms 3: a CLAIMER by a DRAW of how many there are");
        // 834 is wrong by 2 for a claimer with 830, and by 3 for a child
        mondaysOf("834,834;c000", 1, 1, 2, 4, BEHIND_FOUR);
        mondaysOf("834,834;h000", 1, 1, 0, 0, BEHIND_FOUR);
        mondaysOf("834,834;c000,h000", 1, 1, 2, 4, BEHIND_FOUR);
        mondaysOf("834,834;h000,c000", 1, 1, 0, 0, BEHIND_FOUR);
        mondaysOf("834,834;h000,h000,c000", 1, 1, 2, 4, BEHIND_FOUR);
        mondaysOf("834,834;c000,c000,h000", 1, 1, 0, 0, BEHIND_FOUR);
        // the second of three: 31051 of 3 is 1; 700 for one with 704
        mondaysOf("700,700;h000,c000,l000", 2, 1, 2, 4, BEHIND_EIGHT);
        mondaysOf("700,700;c000,h000,l000", 2, 1, 0, 0, BEHIND_EIGHT);
    }

    private static void drawsInPlaceOfHisOwn() {
        DUE.sentence("Terms 3: comes with SIGNS by DRAWS of 10, 6 and 5 in place of his own");
        mondaysOf("830,830;l000", 1, 1, 2, 0, BEHIND_FOUR);
        mondaysOf("930,730;l830", 1, 1, 0, 0, BEHIND_FOUR);
        mondaysOf("840,820;l000", 1, 1, 2, 4, BEHIND_FOUR);
        mondaysOf("834,831;l000", 1, 1, 2, 4, BEHIND_FOUR);
        mondaysOf("844,821;l000", 1, 1, 0, 0, BEHIND_FOUR);
        LostTent x = Due.pitched("830,704;c000");
        for (int year = 0; year <= 9; year++) {
            x.remember(0, 0, year);
            x.remember(0, 1, year % 6);
            x.remember(0, 2, year % 5);
            DUE.due("whatever he remembers", x.mondays(2, 1, 0), 2);
            DUE.due("whatever he remembers, by how much", x.mondays(2, 1, 1), 0);
            DUE.due("what he remembers stays", x.claimer(0, 0), year);
        }
    }

    private static void thingsOfAll() {
        DUE.sentence("Terms 3: how many THINGS (of all)");
        LostTent x = Due.pitched("830,830,830,830,830;c000,c000,c000");
        for (int given = 0; given < 4; given++) {
            DUE.due("mondays(1, 1, 0), given " + given, x.mondays(1, 1, 0), 5);
            if (given < 3) x.give(given, given);
        }
        DUE.due("what was given is given", x.count(2), 3);
    }

    private static void howManyFit() {
        DUE.sentence("Terms 3: how many THINGS FIT in all");
        mondaysOf("830,830,830,830,830;c000", 1, 1, 5, 0, BEHIND_FOUR);
        mondaysOf("630,730,930,530;c000", 1, 1, 3, 4, BEHIND_FOUR);
        mondaysOf("400,504,604,704,804;c000", 2, 1, 4, 4, BEHIND_EIGHT);
        mondaysOf("830,704;n000", 2, 1, 4, 6, BEHIND_EIGHT);
        DUE.due("60 times all fit", fitting("h"), fittingByHand());
    }

    private static int fitting(String kind) {
        return Due.pitched("000,110,220,330,440;" + kind + "000").mondays(60, 1, 0);
    }

    /** All five fit a child who comes with the like 0, and none fits another one. */
    private static int fittingByHand() {
        int fitting = 0;
        for (int time = 1; time <= 60; time++) {
            if (seedBehind(1, 4 * time) / 65536 % 5 == 0) fitting += 5;
        }
        return fitting;
    }

    private static void wrongTogether() {
        DUE.sentence("Terms 3: by how much these are WRONG together");
        mondaysOf("930,000;c000", 1, 1, 1, 1, BEHIND_FOUR);
        mondaysOf("930,630,831,820,830;c000", 1, 1, 5, 7, BEHIND_FOUR);
        mondaysOf("430,431,530,930,834;n000", 1, 1, 4, 10, BEHIND_FOUR);
        mondaysOf("954,954;c000", 1, 1, 0, 0, BEHIND_FOUR);
    }

    private static long seedBehind(long start, int draws) {
        BigInteger seed = BigInteger.valueOf(start);
        for (int i = 0; i < draws; i++) {
            seed = seed.multiply(BigInteger.valueOf(1103515245)).add(BigInteger.valueOf(12345))
                    .mod(BigInteger.TWO.pow(31));
        }
        return seed.longValueExact();
    }

    private static void nextSeed() {
        DUE.sentence("Terms 3: the next SEED each time: 1103515245 times it and 12345");
        mondaysOf("000,000;c000", 1, 1, 0, 0, BEHIND_FOUR);
        LostTent x = Due.pitched("000,000;c000");
        for (int seed = 0; seed <= 20; seed++) {
            DUE.due("behind " + seed, x.mondays(1, seed, 2), seedBehind(seed, 4));
        }
        int on = 1;
        for (int i = 0; i < 20; i++) on = x.mondays(1, on, 2);
        DUE.due("20 times one is one time 20", on, x.mondays(20, 1, 2));
    }

    private static void restOfTheSeed() {
        DUE.sentence("Terms 3: its rest by 2 to the 31");
        LostTent x = Due.pitched("000,000;c000,h000");
        int[] seeds = {Integer.MAX_VALUE, Integer.MAX_VALUE - 1, 1 << 30, (1 << 30) - 1, 65535, 65536, 46341, 2000000000};
        for (int seed : seeds) {
            for (int times : new int[] {1, 2, 59, 60}) {
                DUE.due("mondays(" + times + ", " + seed + ", 2)", x.mondays(times, seed, 2),
                        seedBehind(seed, 4 * times));
            }
        }
    }

    /** Who comes is told by the draws alone: a tent with him in it tells what fits him. */
    private static void roundedDown() {
        DUE.sentence("Terms 3: then that by 65536 (rounded down), its rest");
        int[] seeds = {0, 1, 2, 3, 42, 65535, 65536, 123456789, Integer.MAX_VALUE};
        for (int claimers = 1; claimers <= 3; claimers++) {
            String kinds = "nlh".substring(0, claimers);
            String text = "000,313,524,731,952;" + "n000,l000,h000".substring(0, claimers * 5 - 1);
            for (int seed : seeds) {
                int[] drawn = {claimers, 10, 6, 5};
                for (int i = 0; i < 4; i++) drawn[i] = (int) (seedBehind(seed, i + 1) / 65536 % drawn[i]);
                LostTent guest = Due.pitched("000,313,524,731,952;" + kinds.charAt(drawn[0])
                        + drawn[1] + drawn[2] + drawn[3]);
                int fitting = guest.claimer(0, 5);
                int together = 0;
                for (int thing = 0; thing < 5; thing++) {
                    if ((fitting >> thing & 1) == 1) together += guest.wrong(thing, 0);
                }
                mondaysOf(text, 1, seed, Integer.bitCount(fitting), together, (int) seedBehind(seed, 4));
            }
        }
    }
}
