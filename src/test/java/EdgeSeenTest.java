/** Promises 15 to 19, each sentence at its bounds. */
final class EdgeSeenTest {
    private static final Due DUE = new Due("EdgeSeenTest");
    private static final int NONE = Due.NONE, UNKNOWN = Due.UNKNOWN, OUTSIDE = Due.OUTSIDE,
            STATE = Due.STATE, FULL = Due.FULL;
    private static final int MIN = Integer.MIN_VALUE, MAX = Integer.MAX_VALUE;
    private static final String LARGEST = "000,111,222,333,444;c000,w000,l000";

    public static void main(String[] args) {
        howMuchIsSeen();
        theSameTwice();
        seeUnknown();
        seeFull();
        nothingIsSeenAnyMore();
        howMuchWas();
        whatMondaysTell();
        mondaysChangeNothing();
        timesSeedWhat();
        mondaysWithNoTent();
        oneTheLatest();
        howManyWereOver();
        imageWithNoTent();
        imageOfWhatIsGiven();
        imageOfWhatClaimersRemember();
        imageOfMondaysAndLeft();
        imageOfSeen();
        whatNoImageKeeps();
        goesOnFromTheImage();
        noneWasKept();
        aTentWasReadSince();
        DUE.end();
    }

    private static void howMuchIsSeen() {
        DUE.sentence("15: It is SEEN: how much is");
        LostTent x = Due.pitched(LARGEST);
        for (int i = 0; i < 8; i++) {
            DUE.due("see() " + (i + 1), x.see(i % 5, i % 3, i % 2 == 0), i + 1);
            DUE.due("count(8)", x.count(8), i + 1);
        }
        LostTent last = Due.pitched(LARGEST);
        last.see(4, 2, true);
        DUE.due("YEARS of the last by the last", last.thing(4, 5), 0);
        DUE.due("YEARS of another", last.thing(0, 5), 1023);
        last.see(0, 2, true);
        DUE.due("YEARS of the first by the last", last.thing(0, 5), 1);
        last.six();
        DUE.due("the next Monday", last.see(1, 1, false), 3);
    }

    private static void theSameTwice() {
        DUE.sentence("15: how much is, the same seen again too");
        LostTent x = Due.pitched(LARGEST);
        DUE.due("once", x.see(0, 0, true), 1);
        DUE.due("twice", x.see(0, 0, true), 2);
        DUE.due("YEARS", x.thing(0, 5), 7);
        DUE.due("and that it did not", x.see(0, 0, false), 3);
        DUE.due("YEARS then", x.thing(0, 5), 0);
    }

    private static void seeUnknown() {
        DUE.sentence("15: UNKNOWN: thing, claimer");
        for (int things = 2; things <= 5; things++) {
            for (int claimers = 1; claimers <= 3; claimers++) {
                LostTent x = Due.pitched("000,000,000,000,000".substring(0, things * 4 - 1) + ";"
                        + "c000,c000,c000".substring(0, claimers * 5 - 1));
                for (int none : new int[] {-1, things, MIN, MAX}) {
                    DUE.due("see(" + none + ", 0)", x.see(none, 0, true), UNKNOWN);
                }
                for (int none : new int[] {-1, claimers, MIN, MAX}) {
                    DUE.due("see(0, " + none + ")", x.see(0, none, false), UNKNOWN);
                }
                DUE.due("count(8)", x.count(8), 0);
                DUE.due("see() of the last", x.see(things - 1, claimers - 1, true), 1);
            }
        }
    }

    private static void seeFull() {
        DUE.sentence("15: FULL");
        LostTent x = Due.pitched(LARGEST);
        for (int i = 1; i <= 7; i++) x.see(0, 0, true);
        DUE.due("the eighth", x.see(0, 0, true), 8);
        DUE.due("the ninth", x.see(1, 0, false), FULL);
        DUE.due("the tenth", x.see(0, 0, true), FULL);
        DUE.due("UNKNOWN goes ahead", x.see(5, 0, true), UNKNOWN);
        DUE.due("UNKNOWN goes ahead", x.see(0, 3, true), UNKNOWN);
        DUE.due("count(8)", x.count(8), 8);
        DUE.due("YEARS of what was refused", x.thing(1, 5), 1023);
        x.six();
        DUE.due("the next Monday, too", x.see(0, 0, true), FULL);
        x.forget();
        DUE.due("behind forget()", x.see(1, 0, false), 1);
    }

    private static void nothingIsSeenAnyMore() {
        DUE.sentence("16: Nothing is SEEN any more");
        LostTent x = Due.pitched(LARGEST);
        for (int i = 0; i < 8; i++) x.see(i % 5, i % 3, true);
        x.forget();
        DUE.due("count(8)", x.count(8), 0);
        for (int thing = 0; thing < 5; thing++) DUE.due("YEARS", x.thing(thing, 5), 1023);
        for (int i = 1; i <= 8; i++) DUE.due("see() " + i, x.see(0, 0, true), i);
        DUE.due("YEARS of another", x.thing(1, 5), 1023);
        LostTent given = Due.pitched(LARGEST);
        given.give(0, 0);
        given.see(0, 0, true);
        given.forget();
        DUE.due("what is given is", given.thing(0, 3), 0);
    }

    private static void howMuchWas() {
        DUE.sentence("16: how much was");
        for (int seen = 0; seen <= 8; seen++) {
            LostTent x = Due.pitched(LARGEST);
            for (int i = 0; i < seen; i++) x.see(0, 0, true);
            DUE.due("forget() of " + seen, x.forget(), seen);
            DUE.due("forget() again", x.forget(), 0);
        }
        LostTent nine = Due.pitched(LARGEST);
        for (int i = 0; i < 9; i++) nine.see(0, 0, true);
        DUE.due("forget() of nine", nine.forget(), 8);
        DUE.due("forget() with no tent", new LostTent().forget(), 0);
    }

    private static void whatMondaysTell() {
        DUE.sentence("17: MONDAYS: what = 0 how many THINGS, 1 by how much, 2 the SEED then");
        // one with 8, 3, 0 comes behind the seed 1
        LostTent x = Due.pitched("830,730,630,530;c000");
        DUE.due("mondays(1, 1, 0)", x.mondays(1, 1, 0), 3);
        DUE.due("mondays(1, 1, 1)", x.mondays(1, 1, 1), 3);
        DUE.due("mondays(1, 1, 2)", x.mondays(1, 1, 2), 1147902781);
        LostTent none = Due.pitched("000,000;l000");
        DUE.due("none fits", none.mondays(1, 1, 0), 0);
        DUE.due("none fits, by how much", none.mondays(1, 1, 1), 0);
    }

    private static void mondaysChangeNothing() {
        DUE.sentence("17: MONDAYS, as they would be");
        LostTent x = Due.pitched(LARGEST);
        x.give(0, 0);
        x.see(0, 0, true);
        long before = x.digest();
        for (int what = 0; what <= 2; what++) {
            int once = x.mondays(60, 7, what);
            DUE.due("the same again", x.mondays(60, 7, what), once);
        }
        DUE.due("digest()", x.digest(), before);
        DUE.due("count(5)", x.count(5), 0);
    }

    private static void timesSeedWhat() {
        DUE.sentence("17: OUTSIDE: times (1 to 60), seed (0 at least), what");
        LostTent x = Due.pitched("000,000;c000");
        for (int times : new int[] {0, 61, -1, 62, 257, 65537, MIN, MAX}) {
            for (int what = 0; what <= 2; what++) {
                DUE.due("mondays(" + times + ", 1, " + what + ")", x.mondays(times, 1, what), OUTSIDE);
            }
        }
        for (int seed : new int[] {-1, -2, MIN, -65536}) {
            for (int what = 0; what <= 2; what++) {
                DUE.due("mondays(1, " + seed + ", " + what + ")", x.mondays(1, seed, what), OUTSIDE);
            }
        }
        for (int what : new int[] {-1, 3, 4, 10, 256, MIN, MAX}) {
            DUE.due("mondays(1, 1, " + what + ")", x.mondays(1, 1, what), OUTSIDE);
        }
        DUE.due("mondays(1, 1, 2)", x.mondays(1, 1, 2), 1147902781);
        DUE.due("mondays(60, 1, 2) is let in", x.mondays(60, 1, 2) >= 0 ? 1 : 0, 1);
        DUE.due("mondays(1, 0, 2) is let in", x.mondays(1, 0, 2) >= 0 ? 1 : 0, 1);
        DUE.due("mondays(1, MAX, 2) is let in", x.mondays(1, MAX, 2) >= 0 ? 1 : 0, 1);
        DUE.due("mondays(60, MAX, 0) is let in", x.mondays(60, MAX, 0) >= 0 ? 1 : 0, 1);
    }

    private static void mondaysWithNoTent() {
        DUE.sentence("17: STATE: no TENT");
        LostTent x = Due.written("000,000;c000");
        for (int what = 0; what <= 2; what++) DUE.due("mondays(1, 1, " + what + ")", x.mondays(1, 1, what), STATE);
        DUE.due("OUTSIDE goes ahead, times", x.mondays(0, 1, 0), OUTSIDE);
        DUE.due("OUTSIDE goes ahead, times", x.mondays(61, 1, 0), OUTSIDE);
        DUE.due("OUTSIDE goes ahead, seed", x.mondays(1, -1, 0), OUTSIDE);
        DUE.due("OUTSIDE goes ahead, what", x.mondays(1, 1, 3), OUTSIDE);
        DUE.due("OUTSIDE goes ahead, what", x.mondays(1, 1, -1), OUTSIDE);
    }

    private static void oneTheLatest() {
        DUE.sentence("18: An IMAGE is kept (one; the latest)");
        LostTent x = Due.pitched(LARGEST);
        x.give(0, 0);
        x.image();
        x.give(1, 1);
        x.image();
        long latest = x.digest();
        x.give(2, 2);
        DUE.due("restore()", x.restore(), 0);
        DUE.due("digest()", x.digest(), latest);
        DUE.due("thing(1, 3)", x.thing(1, 3), 1);
        DUE.due("thing(2, 3)", x.thing(2, 3), NONE);
        DUE.due("restore() again: no earlier one", x.restore(), 0);
        DUE.due("count(2)", x.count(2), 2);
    }

    private static void howManyWereOver() {
        DUE.sentence("18: how many MONDAYS were over");
        LostTent x = Due.pitched("000,000;c000");
        for (int over = 0; over <= 99; over++) {
            DUE.due("image() of " + over, x.image(), over);
            if (over < 99) x.six();
        }
        x.six();
        DUE.due("image() when six() is FULL", x.image(), 99);
    }

    private static void imageWithNoTent() {
        DUE.sentence("18: STATE: no TENT");
        LostTent x = Due.written("000,000;c000");
        DUE.due("image()", x.image(), STATE);
        DUE.due("restore()", x.restore(), STATE);
        x.tent();
        DUE.due("restore() of what was not kept", x.restore(), STATE);
        DUE.due("image() with one", x.image(), 0);
        DUE.due("restore() of it", x.restore(), 0);
    }

    private static void imageOfWhatIsGiven() {
        DUE.sentence("Terms 3: An IMAGE keeps what is GIVEN to whom");
        LostTent x = Due.pitched(LARGEST);
        for (int i = 0; i < 3; i++) x.give(4 - i, i);
        x.image();
        x.back(4);
        x.back(3);
        x.give(3, 0);
        x.give(0, 1);
        x.restore();
        for (int thing = 0; thing < 5; thing++) {
            DUE.due("thing(" + thing + ", 3)", x.thing(thing, 3), thing < 2 ? NONE : 4 - thing);
        }
        LostTent none = Due.pitched(LARGEST);
        none.image();
        none.give(0, 0);
        none.restore();
        DUE.due("that nothing is", none.thing(0, 3), NONE);
        DUE.due("count(2)", none.count(2), 0);
    }

    private static void imageOfWhatClaimersRemember() {
        DUE.sentence("Terms 3: An IMAGE keeps what CLAIMERS remember");
        LostTent x = Due.pitched("000,000;c954,w321,l412");
        x.remember(2, 0, 7);
        x.image();
        for (int i = 0; i < 9; i++) x.remember(i / 3, i % 3, 0);
        x.restore();
        int[] signs = {9, 5, 4, 3, 2, 1, 7, 1, 2};
        for (int i = 0; i < 9; i++) DUE.due("sign " + i % 3 + " of " + i / 3, x.claimer(i / 3, i % 3), signs[i]);
    }

    private static void imageOfMondaysAndLeft() {
        DUE.sentence("Terms 3: An IMAGE keeps MONDAYS, what was LEFT");
        LostTent x = Due.pitched(LARGEST);
        x.give(0, 0);
        x.six();
        x.six();
        x.image();
        x.six();
        x.give(1, 1);
        x.six();
        DUE.due("restore()", x.restore(), 2);
        DUE.due("count(5)", x.count(5), 2);
        DUE.due("count(6)", x.count(6), 9);
        DUE.due("count(7)", x.count(7), 5);
    }

    private static void imageOfSeen() {
        DUE.sentence("Terms 3: An IMAGE keeps SEEN");
        LostTent x = Due.pitched("933,833;c433,l333,n903");
        x.see(0, 0, true);
        x.see(1, 1, false);
        x.image();
        x.forget();
        // another thing, another claimer and the other way, each at the place of one that is kept
        x.see(1, 2, false);
        x.see(0, 0, true);
        x.see(0, 2, true);
        x.restore();
        DUE.due("count(8)", x.count(8), 2);
        DUE.due("YEARS of 0", x.thing(0, 5), Due.years(2, 6));
        DUE.due("YEARS of 1", x.thing(1, 5), 1023 - Due.years(3, 3));
        for (int i = 3; i <= 8; i++) DUE.due("see() on", x.see(0, 0, true), i);
        DUE.due("see() above 8", x.see(0, 0, true), FULL);
        x.image();
        x.forget();
        x.restore();
        DUE.due("count(8) of eight", x.count(8), 8);
        DUE.due("see() above 8 again", x.see(0, 0, true), FULL);
    }

    private static void whatNoImageKeeps() {
        DUE.sentence("Terms 3: An IMAGE keeps no more: THE PAGE, and how often a TENT was read, stay");
        LostTent x = Due.pitched("000,000;c000");
        Due.write(x, "123");
        x.image();
        x.letter(';');
        x.restore();
        DUE.due("count(9)", x.count(9), 4);
        DUE.due("fault()", x.fault(), 3);
        x.blank();
        x.restore();
        DUE.due("count(9) of an empty page", x.count(9), 0);
        DUE.due("count(10)", x.count(10), 1);
        DUE.due("count(0)", x.count(0), 2);
    }

    private static void goesOnFromTheImage() {
        DUE.sentence("19: It goes on from the IMAGE: how many MONDAYS were over");
        LostTent x = Due.pitched(LARGEST);
        DUE.due("image() of none", x.image(), 0);
        x.six();
        DUE.due("restore() of none", x.restore(), 0);
        DUE.due("count(5)", x.count(5), 0);
        for (int i = 0; i < 5; i++) x.six();
        x.image();
        long kept = x.digest();
        for (int round = 0; round < 3; round++) {
            x.six();
            x.give(round, round);
            x.see(round, round, true);
            x.remember(round, 0, 9);
            DUE.due("restore() " + round, x.restore(), 5);
            DUE.due("digest() " + round, x.digest(), kept);
        }
        DUE.due("six() on", x.six(), 5);
        DUE.due("count(5) on", x.count(5), 6);
        for (int i = 6; i < 99; i++) x.six();
        DUE.due("image() of 99", x.image(), 99);
        DUE.due("restore() of 99", x.restore(), 99);
        DUE.due("six() behind it", x.six(), FULL);
    }

    private static void noneWasKept() {
        DUE.sentence("19: STATE: none was kept");
        DUE.due("with no tent", new LostTent().restore(), STATE);
        LostTent x = Due.pitched(LARGEST);
        x.give(0, 0);
        x.six();
        x.give(1, 1);
        long before = x.digest();
        DUE.due("restore()", x.restore(), STATE);
        DUE.due("digest()", x.digest(), before);
        x.image();
        DUE.due("restore() when one is", x.restore(), 1);
    }

    private static void aTentWasReadSince() {
        DUE.sentence("19: STATE: a TENT was read since (of the same text, too)");
        for (String text : new String[] {LARGEST, "000,000;c000", "000,111,222,333,444;c000,w000,l001"}) {
            LostTent x = Due.pitched(LARGEST);
            x.six();
            x.image();
            Due.write(x, text);
            DUE.due("restore() ahead of tent()", x.restore(), 1);
            x.tent();
            long before = x.digest();
            DUE.due("restore() behind tent() of " + text, x.restore(), STATE);
            DUE.due("digest()", x.digest(), before);
            DUE.due("count(5)", x.count(5), 0);
            x.image();
            DUE.due("restore() of a new one", x.restore(), 0);
        }
        LostTent refused = Due.pitched(LARGEST);
        refused.six();
        refused.image();
        Due.write(refused, "000,000;");
        DUE.due("tent() of none", refused.tent(), STATE);
        DUE.due("restore() behind a tent() of none", refused.restore(), 1);
    }
}
