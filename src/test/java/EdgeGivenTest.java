/** Promises 10 to 14, each sentence at its bounds. */
final class EdgeGivenTest {
    private static final Due DUE = new Due("EdgeGivenTest");
    private static final int NONE = Due.NONE, UNKNOWN = Due.UNKNOWN, OUTSIDE = Due.OUTSIDE,
            STATE = Due.STATE, FULL = Due.FULL;
    private static final int MIN = Integer.MIN_VALUE, MAX = Integer.MAX_VALUE;
    private static final String LARGEST = "000,111,222,333,444;c000,w000,l000";

    public static void main(String[] args) {
        itIsGiven();
        byHowMuchItIsWrong();
        giveUnknown();
        givenAlready();
        heHasOne();
        givenBack();
        backUnknown();
        notGiven();
        remembersAnotherWay();
        howHeDid();
        rememberRefused();
        howManyAreLeft();
        sixWithNoTent();
        ninetyNineMondays();
        howManyMatch();
        whatEachGets();
        matchRefused();
        DUE.end();
    }

    private static void itIsGiven() {
        DUE.sentence("10: It is GIVEN");
        LostTent x = Due.pitched(LARGEST);
        for (int c = 0; c < 3; c++) {
            x.give(4 - c, c);
            DUE.due("thing(" + (4 - c) + ", 3)", x.thing(4 - c, 3), c);
            DUE.due("claimer(" + c + ", 4)", x.claimer(c, 4), 4 - c);
            DUE.due("count(2)", x.count(2), c + 1);
        }
        for (int thing = 0; thing < 2; thing++) DUE.due("no other", x.thing(thing, 3), NONE);
        LostTent first = Due.pitched(LARGEST);
        first.give(0, 0);
        DUE.due("thing 0 to claimer 0", first.thing(0, 3), 0);
        DUE.due("claimer 0 has thing 0", first.claimer(0, 4), 0);
        DUE.due("claimer 1 has none", first.claimer(1, 4), NONE);
    }

    private static void byHowMuchItIsWrong() {
        DUE.sentence("10: by how much it is WRONG");
        DUE.due("by nothing", Due.pitched("000,954;c000").give(0, 0), 0);
        DUE.due("by 13", Due.pitched("000,954;c000").give(1, 0), 13);
        DUE.due("by 31", Due.pitched("000,954;l000").give(1, 0), 31);
        LostTent x = Due.pitched(LARGEST);
        int[] want = {3 + 2 + 2, 4 + 2, 3 + 2 + 2};
        int[] things = {3, 4, 1};
        for (int c = 0; c < 3; c++) DUE.due("give(" + things[c] + ", " + c + ")", x.give(things[c], c), want[c]);
        x.back(3);
        x.remember(0, 0, 3);
        DUE.due("as he remembers now", x.give(3, 0), 4);
    }

    private static void giveUnknown() {
        DUE.sentence("10: UNKNOWN: thing, claimer");
        for (int things = 2; things <= 5; things++) {
            for (int claimers = 1; claimers <= 3; claimers++) {
                LostTent x = Due.pitched("000,000,000,000,000".substring(0, things * 4 - 1) + ";"
                        + "c000,c000,c000".substring(0, claimers * 5 - 1));
                for (int none : new int[] {-1, things, MIN, MAX}) {
                    DUE.due("give(" + none + ", 0)", x.give(none, 0), UNKNOWN);
                    DUE.due("give(" + none + ", 5)", x.give(none, 5), UNKNOWN);
                }
                for (int none : new int[] {-1, claimers, MIN, MAX}) {
                    DUE.due("give(0, " + none + ")", x.give(0, none), UNKNOWN);
                }
                DUE.due("count(2)", x.count(2), 0);
                DUE.due("give() of the last", x.give(things - 1, claimers - 1), 0);
                DUE.due("a given one to nobody", x.give(things - 1, claimers), UNKNOWN);
                DUE.due("nothing to one who has one", x.give(things, claimers - 1), UNKNOWN);
                DUE.due("nothing to one who has one, by NONE", x.give(NONE, claimers - 1), UNKNOWN);
            }
        }
    }

    private static void givenAlready() {
        DUE.sentence("10: STATE: it is GIVEN already");
        LostTent x = Due.pitched(LARGEST);
        x.give(0, 0);
        x.give(4, 2);
        DUE.due("to another", x.give(0, 1), STATE);
        DUE.due("to him who has it", x.give(0, 0), STATE);
        DUE.due("to one who has another", x.give(0, 2), STATE);
        DUE.due("the last to another", x.give(4, 1), STATE);
        DUE.due("who has it", x.thing(0, 3), 0);
        DUE.due("who has the last", x.thing(4, 3), 2);
        DUE.due("claimer 1 has none", x.claimer(1, 4), NONE);
        x.back(0);
        DUE.due("when it is back", x.give(0, 1), 0);
    }

    private static void heHasOne() {
        DUE.sentence("10: STATE: he has one");
        LostTent x = Due.pitched(LARGEST);
        x.give(0, 2);
        for (int thing = 1; thing < 5; thing++) {
            DUE.due("give(" + thing + ", 2)", x.give(thing, 2), STATE);
            DUE.due("it is not given", x.thing(thing, 3), NONE);
        }
        DUE.due("he has the first still", x.claimer(2, 4), 0);
        DUE.due("count(2)", x.count(2), 1);
        x.six();
        DUE.due("the next Monday", x.give(1, 2), 7);
        x.back(1);
        DUE.due("when it is back", x.give(2, 2), 10);
    }

    private static void givenBack() {
        DUE.sentence("11: It is GIVEN back: who had it");
        LostTent x = Due.pitched(LARGEST);
        for (int c = 0; c < 3; c++) x.give(4 - c, c);
        for (int c = 0; c < 3; c++) {
            DUE.due("back(" + (4 - c) + ")", x.back(4 - c), c);
            DUE.due("thing(" + (4 - c) + ", 3)", x.thing(4 - c, 3), NONE);
            DUE.due("claimer(" + c + ", 4)", x.claimer(c, 4), NONE);
            DUE.due("count(2)", x.count(2), 2 - c);
        }
        x.give(0, 0);
        DUE.due("back(0)", x.back(0), 0);
        DUE.due("count(6)", x.count(6), 0);
    }

    private static void backUnknown() {
        DUE.sentence("11: UNKNOWN");
        for (int things = 2; things <= 5; things++) {
            LostTent x = Due.pitched("000,000,000,000,000".substring(0, things * 4 - 1) + ";c000");
            for (int none : new int[] {-1, things, MIN, MAX}) DUE.due("back(" + none + ")", x.back(none), UNKNOWN);
            x.give(things - 1, 0);
            DUE.due("back() behind the last", x.back(things), UNKNOWN);
            DUE.due("back() of the last", x.back(things - 1), 0);
        }
    }

    private static void notGiven() {
        DUE.sentence("11: STATE: it is not GIVEN");
        LostTent x = Due.pitched(LARGEST);
        for (int thing = 0; thing < 5; thing++) DUE.due("ahead", x.back(thing), STATE);
        x.give(2, 0);
        for (int thing = 0; thing < 5; thing++) {
            if (thing != 2) DUE.due("back(" + thing + ")", x.back(thing), STATE);
        }
        DUE.due("back(2)", x.back(2), 0);
        DUE.due("back(2) again", x.back(2), STATE);
        x.give(2, 0);
        x.six();
        DUE.due("the next Monday", x.back(2), STATE);
    }

    private static void remembersAnotherWay() {
        DUE.sentence("12: A CLAIMER remembers a SIGN another way");
        LostTent x = Due.pitched("333,333;c000,c000,c000");
        int[] values = {9, 5, 4};
        for (int claimer = 0; claimer < 3; claimer++) {
            for (int sign = 0; sign < 3; sign++) {
                x.remember(claimer, sign, values[sign]);
                for (int i = 0; i < 9; i++) {
                    boolean told = i <= claimer * 3 + sign;
                    DUE.due("sign " + i % 3 + " of " + i / 3, x.claimer(i / 3, i % 3), told ? values[i % 3] : 0);
                }
            }
        }
        DUE.due("his kind stays", x.claimer(0, 3), 0);
        DUE.due("wrong()", x.wrong(0, 0), 6 + 2 + 2);
        x.remember(0, 0, 3);
        x.remember(0, 1, 3);
        x.remember(0, 2, 3);
        DUE.due("wrong() then", x.wrong(0, 0), 0);
        x.six();
        DUE.due("the next Monday", x.claimer(0, 0), 3);
    }

    private static void howHeDid() {
        DUE.sentence("12: how he did");
        LostTent x = Due.pitched("333,333;c954,w000");
        int[] highest = {9, 5, 4};
        for (int sign = 0; sign < 3; sign++) {
            DUE.due("at first", x.remember(0, sign, 0), highest[sign]);
            int before = 0;
            for (int value = highest[sign]; value >= 0; value--) {
                DUE.due("remember(0, " + sign + ", " + value + ")", x.remember(0, sign, value), before);
                before = value;
            }
            DUE.due("the same", x.remember(0, sign, 0), 0);
            DUE.due("of another", x.remember(1, sign, 1), 0);
        }
    }

    private static void rememberRefused() {
        DUE.sentence("12: UNKNOWN: claimer; OUTSIDE: sign (0 to 2), value (0 to 9, 5, 4)");
        for (int claimers = 1; claimers <= 3; claimers++) {
            LostTent x = Due.pitched("000,000;" + "c321,c321,c321".substring(0, claimers * 5 - 1));
            for (int none : new int[] {-1, claimers, claimers + 1, MIN, MAX}) {
                DUE.due("remember(" + none + ", 0, 0)", x.remember(none, 0, 0), UNKNOWN);
                DUE.due("remember(" + none + ", 3, 0)", x.remember(none, 3, 0), UNKNOWN);
                DUE.due("remember(" + none + ", 0, 10)", x.remember(none, 0, 10), UNKNOWN);
            }
            for (int sign : new int[] {-1, 3, 4, MIN, MAX}) {
                DUE.due("remember(0, " + sign + ", 0)", x.remember(0, sign, 0), OUTSIDE);
            }
            int[] highest = {9, 5, 4};
            for (int sign = 0; sign < 3; sign++) {
                for (int value : new int[] {-1, highest[sign] + 1, 10, MIN, MAX}) {
                    DUE.due("remember(0, " + sign + ", " + value + ")", x.remember(0, sign, value), OUTSIDE);
                }
                DUE.due("what he remembers still", x.remember(0, sign, highest[sign]), 3 - sign);
                DUE.due("the highest", x.claimer(0, sign), highest[sign]);
                DUE.due("the least", x.remember(0, sign, 0), highest[sign]);
                DUE.due("the least then", x.claimer(0, sign), 0);
            }
        }
    }

    private static void howManyAreLeft() {
        DUE.sentence("13: It is SIX: how many THINGS are LEFT");
        LostTent x = Due.pitched(LARGEST);
        int sum = 0;
        int waiting = 0;
        for (int given = 3; given >= 0; given--) {
            for (int i = 0; i < given; i++) x.give(i, i);
            DUE.due("six(), given " + given, x.six(), 5 - given);
            sum += 5 - given;
            waiting += 3 - given;
            DUE.due("count(5)", x.count(5), 4 - given);
            DUE.due("count(6)", x.count(6), sum);
            DUE.due("count(7)", x.count(7), waiting);
        }
        LostTent none = Due.pitched("000,000;c000,c000");
        none.give(0, 1);
        none.give(1, 0);
        DUE.due("six() when none is left", none.six(), 0);
        DUE.due("count(6)", none.count(6), 0);
        DUE.due("count(5)", none.count(5), 1);
    }

    private static void sixWithNoTent() {
        DUE.sentence("13: STATE: no TENT");
        LostTent x = Due.written("000,000;c000");
        DUE.due("six() ahead of tent()", x.six(), STATE);
        DUE.due("count(5)", x.count(5), 0);
        x.tent();
        DUE.due("six() behind it", x.six(), 2);
        DUE.due("count(5)", x.count(5), 1);
    }

    private static void ninetyNineMondays() {
        DUE.sentence("13: FULL: 99 MONDAYS are over");
        LostTent x = Due.pitched("000,000;c000");
        x.image();
        for (int i = 1; i <= 98; i++) x.six();
        DUE.due("count(5)", x.count(5), 98);
        DUE.due("the 99th", x.six(), 2);
        DUE.due("count(5) then", x.count(5), 99);
        x.give(1, 0);
        DUE.due("the 100th", x.six(), FULL);
        DUE.due("count(5) still", x.count(5), 99);
        DUE.due("thing(1, 3) still", x.thing(1, 3), 0);
        DUE.due("count(6)", x.count(6), 198);
        DUE.due("count(7)", x.count(7), 99);
        DUE.due("the 101st", x.six(), FULL);
        DUE.due("restore()", x.restore(), 0);
        DUE.due("six() behind restore()", x.six(), 2);
        for (int i = 1; i <= 98; i++) x.six();
        DUE.due("six() of 99 again", x.six(), FULL);
        Due.write(x, "000,000;c000");
        x.tent();
        DUE.due("six() of another tent", x.six(), 2);
    }

    private static void howManyMatch() {
        DUE.sentence("14: MATCH: what = 0 how many, 1 by how much they are WRONG together");
        DUE.due("none", Due.pitched("954,954;c000").match(0), 0);
        DUE.due("none, by nothing", Due.pitched("954,954;c000").match(1), 0);
        DUE.due("three", Due.pitched("000,000,000;c000,c000,c000").match(0), 3);
        DUE.due("three, by nothing", Due.pitched("000,000,000;c000,c000,c000").match(1), 0);
        DUE.due("three, by most", Due.pitched("400,400,400,954;n000,n000,n000").match(1), 12);
        LostTent x = Due.pitched("000,000;c000");
        DUE.due("one", x.match(0), 1);
        x.give(0, 0);
        DUE.due("none who has none", x.match(0), 0);
    }

    private static void whatEachGets() {
        DUE.sentence("14: 10 to 12 what CLAIMER 0 to 2 gets (NONE)");
        LostTent x = Due.pitched("900,700,500,300,100;c100,c500,c900");
        DUE.due("match(10)", x.match(10), 4);
        DUE.due("match(11)", x.match(11), 2);
        DUE.due("match(12)", x.match(12), 0);
        x.give(1, 1);
        DUE.due("match(10) of the rest", x.match(10), 4);
        DUE.due("match(11) of one who has one", x.match(11), NONE);
        DUE.due("match(12) of the rest", x.match(12), 0);
        LostTent one = Due.pitched("900,100;c100");
        DUE.due("match(10) of one", one.match(10), 1);
        DUE.due("match(11) of nobody", one.match(11), NONE);
        DUE.due("match(12) of nobody", one.match(12), NONE);
        LostTent none = Due.pitched("954,954;c000,c000,c000");
        for (int what = 10; what <= 12; what++) DUE.due("match(" + what + ") when none fits", none.match(what), NONE);
    }

    private static void matchRefused() {
        DUE.sentence("14: OUTSIDE; STATE: no TENT");
        LostTent none = new LostTent();
        LostTent x = Due.pitched("000,000;c000");
        LostTent unread = Due.written("000,000;c000");
        for (int what : new int[] {-1, 2, 3, 4, 5, 6, 7, 8, 9, 13, 14, -101, 256, 65546, MIN, MAX}) {
            DUE.due("match(" + what + ")", x.match(what), OUTSIDE);
            DUE.due("match(" + what + ") with no tent", none.match(what), OUTSIDE);
        }
        for (int what : new int[] {0, 1, 10, 11, 12}) {
            DUE.due("match(" + what + ") with no tent", none.match(what), STATE);
            DUE.due("match(" + what + ") ahead of tent()", unread.match(what), STATE);
        }
    }
}
