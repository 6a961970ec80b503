/** Terms 1, what is wrong for whom, what fits, is given and left: each sentence at its bounds. */
final class TermsKindsTest {
    private static final Due DUE = new Due("TermsKindsTest");
    private static final String LETTERS = "cwlhn";
    private static final int NONE = Due.NONE;

    public static void main(String[] args) {
        atFirstThereIsNone();
        thenNothingIsGiven();
        kindsAreTold();
        allAreClaimers();
        aNurseIsAWidow();
        everyYearBetween();
        placesUnlike();
        likesUnlike();
        placesDoNotCountForAWidow();
        threeForAColonel();
        onlyLikesForAChild();
        allTogether();
        fitsUpToTwo();
        aNurseUpToFour();
        givenWhetherItFits();
        toAClaimerWhoHasNone();
        mayBeGivenBack();
        whatIsLeft();
        theNextMonday();
        DUE.end();
    }

    private static void atFirstThereIsNone() {
        DUE.sentence("Terms 1: At first there is none");
        LostTent x = new LostTent();
        DUE.due("count(0)", x.count(0), 0);
        DUE.due("count(1)", x.count(1), 0);
        DUE.due("thing(0, 3)", x.thing(0, 3), Due.UNKNOWN);
        DUE.due("claimer(0, 3)", x.claimer(0, 3), Due.UNKNOWN);
        DUE.due("six()", x.six(), Due.STATE);
    }

    private static void thenNothingIsGiven() {
        DUE.sentence("Terms 1: then nothing is GIVEN");
        LostTent x = Due.pitched("000,111,222,333,444;c000,w000,l000");
        for (int round = 0; round < 2; round++) {
            for (int thing = 0; thing < 5; thing++) DUE.due("thing(" + thing + ", 3)", x.thing(thing, 3), NONE);
            for (int c = 0; c < 3; c++) DUE.due("claimer(" + c + ", 4)", x.claimer(c, 4), NONE);
            for (int what = 2; what <= 4; what++) DUE.due("count(" + what + ")", x.count(what), 0);
            for (int c = 0; c < 3; c++) x.give(4 - c, c);
            Due.write(x, "000,111,222,333,444;c000,w000,l000");
            x.tent();
        }
    }

    private static void kindsAreTold() {
        DUE.sentence("Terms 1: KINDS are told by the letter: 0 CLAIMER, 1 WIDOW, 2 COLONEL, 3 CHILD, 4 NURSE");
        for (int kind = 0; kind < 5; kind++) {
            LostTent x = Due.pitched("000,000;" + LETTERS.charAt(kind) + "000");
            DUE.due("claimer(0, 3)", x.claimer(0, 3), kind);
            DUE.due("as(0, " + kind + ")", x.as(0, kind), 0);
        }
    }

    private static void allAreClaimers() {
        DUE.sentence("Terms 1: All are CLAIMERS");
        for (int kind = 0; kind < 5; kind++) {
            LostTent x = Due.pitched("000,000;h000," + LETTERS.charAt(kind) + "000");
            DUE.due("as(1, 0) of kind " + kind, x.as(1, 0), 1);
        }
    }

    private static void aNurseIsAWidow() {
        DUE.sentence("Terms 1: a NURSE is a WIDOW, too");
        LostTent x = Due.pitched("000,000;n000,w000,l000");
        DUE.due("as(0, 1)", x.as(0, 1), 0);
        DUE.due("as(0, 4)", x.as(0, 4), 0);
        DUE.due("as(1, 4): no widow is a nurse for that", x.as(1, 4), NONE);
        DUE.due("as(1, 1)", x.as(1, 1), 1);
        DUE.due("as(2, 1): no colonel is a widow", x.as(2, 1), NONE);
        DUE.due("as(0, 2)", x.as(0, 2), NONE);
        DUE.due("as(0, 3)", x.as(0, 3), NONE);
        DUE.due("claimer(0, 3): her own kind", x.claimer(0, 3), 4);
        LostTent others = Due.pitched("000,000;c000,h000");
        for (int kind = 1; kind < 5; kind++) {
            DUE.due("as(0, " + kind + ") of a claimer", others.as(0, kind), NONE);
            DUE.due("as(1, " + kind + ") of a child", others.as(1, kind), kind == 3 ? 1 : NONE);
        }
    }

    private static void everyYearBetween() {
        DUE.sentence("Terms 1: 1 for each YEAR between those of both");
        for (int year = 0; year <= 9; year++) {
            for (int own = 0; own <= 9; own++) {
                int between = year > own ? year - own : own - year;
                for (char kind : new char[] {'c', 'w', 'n'}) {
                    DUE.due(year + " for " + own, Due.wrongOf(year + "00", kind + "" + own + "00"), between);
                }
            }
        }
        DUE.due("the same year", Due.wrongOf("500", "c500"), 0);
        DUE.due("the next", Due.wrongOf("500", "c600"), 1);
        DUE.due("the one ahead", Due.wrongOf("500", "c400"), 1);
        DUE.due("the first for the last", Due.wrongOf("000", "c900"), 9);
        DUE.due("the last for the first", Due.wrongOf("900", "c000"), 9);
    }

    private static void placesUnlike() {
        DUE.sentence("Terms 1: 2 more if the PLACES are unlike");
        for (int place = 0; place <= 5; place++) {
            for (int own = 0; own <= 5; own++) {
                int want = place == own ? 0 : 2;
                DUE.due(place + " for " + own, Due.wrongOf("0" + place + "0", "c0" + own + "0"), want);
                DUE.due("a colonel", Due.wrongOf("0" + place + "0", "l0" + own + "0"), want);
                DUE.due("with a year", Due.wrongOf("1" + place + "0", "c0" + own + "0"), want + 1);
            }
        }
    }

    private static void likesUnlike() {
        DUE.sentence("Terms 1: 2 more if the LIKES are");
        for (int like = 0; like <= 4; like++) {
            for (int own = 0; own <= 4; own++) {
                int want = like == own ? 0 : 2;
                for (char kind : new char[] {'c', 'w', 'l', 'n'}) {
                    DUE.due(like + " for " + own + ", " + kind, Due.wrongOf("00" + like, kind + "00" + own), want);
                }
                DUE.due("with a place", Due.wrongOf("01" + like, "c00" + own), want + 2);
                DUE.due("with a year", Due.wrongOf("30" + like, "w00" + own), want + 3);
            }
        }
    }

    private static void placesDoNotCountForAWidow() {
        DUE.sentence("Terms 1: for a WIDOW PLACES do not count");
        for (int place = 0; place <= 5; place++) {
            for (int own = 0; own <= 5; own++) {
                DUE.due("a widow", Due.wrongOf("0" + place + "0", "w0" + own + "0"), 0);
                DUE.due("a nurse, who is one", Due.wrongOf("0" + place + "0", "n0" + own + "0"), 0);
                DUE.due("a widow with a like", Due.wrongOf("0" + place + "1", "w0" + own + "0"), 2);
            }
        }
    }

    private static void threeForAColonel() {
        DUE.sentence("Terms 1: for a COLONEL each YEAR counts 3");
        for (int year = 0; year <= 9; year++) {
            for (int own = 0; own <= 9; own++) {
                int between = year > own ? year - own : own - year;
                DUE.due(year + " for " + own, Due.wrongOf(year + "00", "l" + own + "00"), 3 * between);
            }
        }
        DUE.due("9 years, place and like", Due.wrongOf("954", "l000"), 31);
    }

    private static void onlyLikesForAChild() {
        DUE.sentence("Terms 1: for a CHILD nothing but LIKES counts, 3 if they are unlike");
        for (int like = 0; like <= 4; like++) {
            for (int own = 0; own <= 4; own++) {
                int want = like == own ? 0 : 3;
                DUE.due(like + " for " + own, Due.wrongOf("00" + like, "h00" + own), want);
                DUE.due("with year and place", Due.wrongOf("95" + like, "h00" + own), want);
                DUE.due("with a year", Due.wrongOf("00" + like, "h10" + own), want);
                DUE.due("with a place", Due.wrongOf("01" + like, "h00" + own), want);
            }
        }
    }

    private static void allTogether() {
        DUE.sentence("Terms 1: How WRONG a THING is for a CLAIMER, at most and at least");
        int[] most = {13, 11, 31, 3, 11};
        for (int kind = 0; kind < 5; kind++) {
            DUE.due("at most", Due.wrongOf("954", LETTERS.charAt(kind) + "000"), most[kind]);
            DUE.due("at most, the other way", Due.wrongOf("000", LETTERS.charAt(kind) + "954"), most[kind]);
            DUE.due("at least", Due.wrongOf("954", LETTERS.charAt(kind) + "954"), 0);
        }
    }

    /** What each call that tells of fitting says of one thing and one claimer. */
    private static void fitOf(String thing, String claimer, int wrongness, boolean fits) {
        LostTent x = Due.pitched(thing + ",000;" + claimer);
        String pair = thing + " for " + claimer;
        DUE.due("wrong() of " + pair, x.wrong(0, 0), wrongness);
        DUE.due("thing(0, 4) of " + pair, x.thing(0, 4), fits ? 1 : 0);
        DUE.due("claimer(0, 5) of " + pair, x.claimer(0, 5) & 1, fits ? 1 : 0);
        DUE.due("give() of " + pair, x.give(0, 0), wrongness);
        DUE.due("count(3) of " + pair, x.count(3), fits ? 1 : 0);
        LostTent only = Due.pitched(thing + "," + thing + ";" + claimer);
        DUE.due("match(0) of " + pair, only.match(0), fits ? 1 : 0);
        DUE.due("match(1) of " + pair, only.match(1), fits ? wrongness : 0);
        DUE.due("claimer(0, 6) of " + pair, only.claimer(0, 6), fits ? 0 : NONE);
        DUE.due("YEARS of " + pair, only.thing(0, 5), 1023);
        only.see(0, 0, true);
        DUE.due("its YEAR among those seen of " + pair, only.thing(0, 5) >> (thing.charAt(0) - '0') & 1, fits ? 1 : 0);
    }

    private static void fitsUpToTwo() {
        DUE.sentence("Terms 1: It FITS him, if it is WRONG by 2 at most");
        fitOf("333", "c333", 0, true);
        fitOf("433", "c333", 1, true);
        fitOf("533", "c333", 2, true);
        fitOf("133", "c333", 2, true);
        fitOf("323", "c333", 2, true);
        fitOf("332", "c333", 2, true);
        fitOf("633", "c333", 3, false);
        fitOf("033", "c333", 3, false);
        fitOf("423", "c333", 3, false);
        fitOf("232", "c333", 3, false);
        fitOf("322", "c333", 4, false);
        fitOf("523", "w333", 2, true);
        fitOf("322", "w333", 2, true);
        fitOf("633", "w333", 3, false);
        fitOf("432", "w333", 3, false);
        fitOf("333", "l333", 0, true);
        fitOf("343", "l333", 2, true);
        fitOf("334", "l333", 2, true);
        fitOf("433", "l333", 3, false);
        fitOf("233", "l333", 3, false);
        fitOf("344", "l333", 4, false);
        fitOf("953", "h003", 0, true);
        fitOf("332", "h333", 3, false);
    }

    private static void aNurseUpToFour() {
        DUE.sentence("Terms 1: a NURSE, if by 4");
        fitOf("333", "n333", 0, true);
        fitOf("633", "n333", 3, true);
        fitOf("432", "n333", 3, true);
        fitOf("733", "n333", 4, true);
        fitOf("532", "n333", 4, true);
        fitOf("152", "n333", 4, true);
        fitOf("833", "n333", 5, false);
        fitOf("632", "n333", 5, false);
        fitOf("954", "n000", 11, false);
    }

    private static void givenWhetherItFits() {
        DUE.sentence("Terms 1: A THING is GIVEN to a CLAIMER, whether it FITS or not");
        LostTent x = Due.pitched("954,000;l000,c000");
        DUE.due("give() of one that does not fit", x.give(0, 0), 31);
        DUE.due("give() of one that does", x.give(1, 1), 0);
        DUE.due("thing(0, 3)", x.thing(0, 3), 0);
        DUE.due("thing(1, 3)", x.thing(1, 3), 1);
        DUE.due("count(2)", x.count(2), 2);
        DUE.due("count(3)", x.count(3), 1);
    }

    private static void toAClaimerWhoHasNone() {
        DUE.sentence("Terms 1: A THING is GIVEN to a CLAIMER who has none");
        LostTent x = Due.pitched("000,000;c000,c000");
        x.give(0, 0);
        DUE.due("another to him", x.give(1, 0), Due.STATE);
        DUE.due("it is not given", x.thing(1, 3), NONE);
        DUE.due("he has the first", x.claimer(0, 4), 0);
        DUE.due("to one who has none", x.give(1, 1), 0);
    }

    private static void mayBeGivenBack() {
        DUE.sentence("Terms 1: it may be GIVEN back");
        LostTent x = Due.pitched("000,000;c000,c000");
        x.give(0, 1);
        DUE.due("back(0)", x.back(0), 1);
        DUE.due("thing(0, 3)", x.thing(0, 3), NONE);
        DUE.due("claimer(1, 4)", x.claimer(1, 4), NONE);
        DUE.due("give() of it again", x.give(0, 0), 0);
        DUE.due("give() of another to him", x.give(1, 1), 0);
    }

    /** Gives so many things, each to the claimer of its number, and lets it be six. */
    private static void leftOf(String text, int given, int things, int claimers) {
        LostTent x = Due.pitched(text);
        for (int i = 0; i < given; i++) x.give(i, i);
        DUE.due("six() of " + text + ", given " + given, x.six(), things);
        DUE.due("count(6)", x.count(6), things);
        DUE.due("count(7)", x.count(7), claimers);
    }

    private static void whatIsLeft() {
        DUE.sentence("Terms 1: At SIX what is left is LEFT, as are CLAIMERS who have none");
        leftOf("000,000;c000,c000", 0, 2, 2);
        leftOf("000,000;c000,c000", 1, 1, 1);
        leftOf("000,000;c000,c000", 2, 0, 0);
        leftOf("000,000;c000,c000,c000", 2, 0, 1);
        leftOf("000,000,000;c000,c000,c000", 3, 0, 0);
        leftOf("000,000,000,000,000;c000", 0, 5, 1);
        leftOf("000,000,000,000,000;c000", 1, 4, 0);
        leftOf("000,000,000,000,000;c000,c000,c000", 3, 2, 0);
    }

    private static void theNextMonday() {
        DUE.sentence("Terms 1: the next MONDAY all THINGS are there again, and nothing is GIVEN");
        LostTent x = Due.pitched("000,111,222;c000,c000,c000");
        x.give(0, 2);
        x.give(1, 0);
        x.give(2, 1);
        x.six();
        for (int i = 0; i < 3; i++) {
            DUE.due("thing(" + i + ", 3)", x.thing(i, 3), NONE);
            DUE.due("claimer(" + i + ", 4)", x.claimer(i, 4), NONE);
            DUE.due("back(" + i + ")", x.back(i), Due.STATE);
        }
        DUE.due("count(0)", x.count(0), 3);
        DUE.due("count(2)", x.count(2), 0);
        DUE.due("count(4)", x.count(4), 0);
        DUE.due("give() of one that was left", x.give(0, 0), 0);
    }
}
