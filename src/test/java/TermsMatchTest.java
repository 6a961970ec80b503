/** Terms 2: MATCH and the SIGN to ask for, each sentence at its bounds. */
final class TermsMatchTest {
    private static final Due DUE = new Due("TermsMatchTest");
    private static final int NONE = Due.NONE;
    private static final int[] QUESTIONS = {0, 1, 10, 11, 12};

    public static void main(String[] args) {
        thingsNotGiven();
        claimersWhoHaveNone();
        oneEach();
        suchAsFit();
        asManyAsCanBe();
        wrongByLeast();
        firstByNumbersForClaimerZero();
        noneAheadOfAll();
        thenClaimerOne();
        andSoOn();
        nothingChanges();
        fewestAtWorst();
        ofThingsNotGiven();
        ofThingsThatFit();
        theLeastSign();
        noSign();
        DUE.end();
    }

    private static void matchOf(LostTent x, String name, int... want) {
        for (int i = 0; i < 5; i++) {
            DUE.due("match(" + QUESTIONS[i] + ") of " + name, x.match(QUESTIONS[i]), want[i]);
        }
    }

    private static void matchOf(String text, int... want) {
        matchOf(Due.pitched(text), text, want);
    }

    private static void thingsNotGiven() {
        DUE.sentence("Terms 2: which THINGS that are not GIVEN");
        LostTent x = Due.pitched("300,300,400;c300,c300,c300");
        x.give(0, 2);
        matchOf(x, "what is not given", 2, 1, 1, 2, NONE);
        x.back(0);
        matchOf(x, "all", 3, 1, 0, 1, 2);
        x.give(0, 0);
        x.give(1, 1);
        x.give(2, 2);
        matchOf(x, "nothing", 0, 0, NONE, NONE, NONE);
        x.six();
        matchOf(x, "the next Monday", 3, 1, 0, 1, 2);
    }

    private static void claimersWhoHaveNone() {
        DUE.sentence("Terms 2: to which CLAIMERS who have none");
        LostTent x = Due.pitched("300,300,954;c300,c300");
        x.give(2, 0);
        matchOf(x, "one who has none", 1, 0, NONE, 0, NONE);
        x.back(2);
        x.give(2, 1);
        matchOf(x, "the other who has none", 1, 0, 0, NONE, NONE);
        LostTent all = Due.pitched("300,300,300,300,300;c300,c300,c300");
        for (int i = 0; i < 3; i++) all.give(i, i);
        matchOf(all, "none who has none", 0, 0, NONE, NONE, NONE);
    }

    private static void oneEach() {
        DUE.sentence("Terms 2: (one each)");
        matchOf("300,954;c300,c300", 1, 0, NONE, 0, NONE);
        matchOf("300,300;c300", 1, 0, 0, NONE, NONE);
        matchOf("300,300,300,300,300;c300,c300,c300", 3, 0, 0, 1, 2);
        matchOf("300,954;c300,c954", 2, 0, 0, 1, NONE);
        matchOf("300,954;c300,c300,c300", 1, 0, NONE, NONE, 0);
        matchOf("954,300;c300,c111,c300", 1, 0, NONE, NONE, 1);
    }

    private static void suchAsFit() {
        DUE.sentence("Terms 2: such as FIT");
        matchOf("500,954;c300", 1, 2, 0, NONE, NONE);
        matchOf("600,954;c300", 0, 0, NONE, NONE, NONE);
        matchOf("954,500;w330", 1, 2, 1, NONE, NONE);
        matchOf("954,600;w330", 0, 0, NONE, NONE, NONE);
        matchOf("954,350;l300", 1, 2, 1, NONE, NONE);
        matchOf("954,400;l300", 0, 0, NONE, NONE, NONE);
        matchOf("954,951;h001", 1, 0, 1, NONE, NONE);
        matchOf("954,953;h000", 0, 0, NONE, NONE, NONE);
        matchOf("700,954;n300", 1, 4, 0, NONE, NONE);
        matchOf("800,954;n300", 0, 0, NONE, NONE, NONE);
        matchOf("954,954;c000,w000,l000", 0, 0, NONE, NONE, NONE);
        // the last thing of five and the first one do not mix
        matchOf("000,954,954,954,954;l333,c000", 1, 0, NONE, 0, NONE);
        matchOf("000,954,954,954,954;l333,l333,c000", 1, 0, NONE, NONE, 0);
        matchOf("000,954,954,954,954;c000,l333,c000", 1, 0, NONE, NONE, 0);
        matchOf("954,954,954,954,000;c000,l333", 1, 0, 4, NONE, NONE);
        matchOf("954,954,954,954,000;l333,c000,l333", 1, 0, NONE, 4, NONE);
    }

    private static void asManyAsCanBe() {
        DUE.sentence("Terms 2: as many as can be");
        matchOf("500,600;c500,c300", 2, 3, 1, 0, NONE);
        matchOf("500,600,700;c500,c300,n900", 3, 5, 1, 0, 2);
        matchOf("300,954;c300,c300", 1, 0, NONE, 0, NONE);
        matchOf("300,400;c300,c300,c300", 2, 1, NONE, 0, 1);
        matchOf("300,300,300;c300,c300,c300", 3, 0, 0, 1, 2);
    }

    private static void wrongByLeast() {
        DUE.sentence("Terms 2: of these so that they are WRONG by least together");
        matchOf("300,400;c400,c300", 2, 0, 1, 0, NONE);
        matchOf("300,400,500;c500,c300,c400", 3, 0, 2, 0, 1);
        matchOf("300,400;c300,c400,c350", 2, 0, 0, 1, NONE);
        matchOf("301,300;c300,c300,c300", 2, 2, NONE, 0, 1);
        matchOf("954,300;c400,c300", 1, 0, NONE, 1, NONE);
        matchOf("500,400,300;c300", 1, 0, 2, NONE, NONE);
        matchOf("500,300,400;c300,n800", 2, 3, 1, 0, NONE);
        // one pair each way is right, but together the crossed way is wrong by less
        matchOf("300,500;c400,c200", 2, 2, 1, 0, NONE);
    }

    private static void firstByNumbersForClaimerZero() {
        DUE.sentence("Terms 2: of like ones the first by numbers (which one CLAIMER 0 gets)");
        matchOf("300,300;c300", 1, 0, 0, NONE, NONE);
        matchOf("954,300,300;c300", 1, 0, 1, NONE, NONE);
        matchOf("954,954,954,954,300;c300", 1, 0, 4, NONE, NONE);
        matchOf("300,400;c300,c200", 2, 2, 0, 1, NONE);
        matchOf("300,400;c200,c300", 2, 2, 0, 1, NONE);
        matchOf("400,300;c300,c200", 2, 2, 0, 1, NONE);
        matchOf("400,200;c300", 1, 1, 0, NONE, NONE);
    }

    private static void noneAheadOfAll() {
        DUE.sentence("Terms 2: none ahead of all");
        matchOf("300,954;c300,c300", 1, 0, NONE, 0, NONE);
        matchOf("300,954;c300,c300,c300", 1, 0, NONE, NONE, 0);
        matchOf("300,300;c300,c300,c300", 2, 0, NONE, 0, 1);
        matchOf("400,954;c300,c500", 1, 1, NONE, 0, NONE);
        // but he gets one, where it is less wrong so
        matchOf("300,954;c300,c400", 1, 0, 0, NONE, NONE);
        matchOf("300,954;c300,c400,c300", 1, 0, NONE, NONE, 0);
    }

    private static void thenClaimerOne() {
        DUE.sentence("Terms 2: then CLAIMER 1");
        matchOf("300,500,500;c300,c500", 2, 0, 0, 1, NONE);
        matchOf("500,300,500;c300,c500", 2, 0, 1, 0, NONE);
        matchOf("300,600,954;c300,c600,c600", 2, 0, 0, NONE, 1);
        matchOf("300,600,600;c300,c600,c600", 3, 0, 0, 1, 2);
        matchOf("300,700,800;c300,c700,c600", 3, 2, 0, 1, 2);
        matchOf("300,800,700;c300,c700,c600", 3, 2, 0, 1, 2);
        matchOf("300,700,800;c300,c700,c700", 3, 1, 0, 1, 2);
    }

    private static void andSoOn() {
        DUE.sentence("Terms 2: and so on");
        matchOf("200,500,800,800;c200,c500,c800", 3, 0, 0, 1, 2);
        matchOf("800,800,200,500;c200,c500,c800", 3, 0, 2, 3, 0);
        matchOf("200,500,700,900;c200,c500,c800", 3, 1, 0, 1, 2);
    }

    private static void nothingChanges() {
        DUE.sentence("Terms 2: MATCH tells which should be GIVEN, and gives none");
        LostTent x = Due.pitched("300,300,954;c300,c300");
        long before = x.digest();
        for (int what : QUESTIONS) x.match(what);
        DUE.due("digest()", x.digest(), before);
        DUE.due("count(2)", x.count(2), 0);
        matchOf(x, "it asked again", 2, 0, 0, 1, NONE);
    }

    private static void signOf(String text, int want) {
        DUE.due("claimer(0, 6) of " + text, Due.pitched(text).claimer(0, 6), want);
    }

    private static void fewestAtWorst() {
        DUE.sentence("Terms 2: so that fewest are left at worst (by what the SIGN of each is)");
        signOf("010,110,210;h000", 0);
        signOf("100,110,120;h000", 1);
        signOf("300,301,302;n300", 2);
        signOf("110,210,310,320;h000", 0);
        signOf("110,120,130,210;h000", 1);
        signOf("300,301,412,302;n300", 2);
        signOf("110,120,130,240;h000", 1);
        signOf("300,310,320,431,442;n300", 1);
        // three of one year and two alone: so 3 at worst, but of the places no more than 2
        signOf("110,110,120,220,330;h000", 1);
        signOf("110,120,130,220,330;h000", 1);
        // and the other way about
        signOf("110,110,210,220,330;h000", 0);
    }

    private static void ofThingsNotGiven() {
        DUE.sentence("Terms 2: of the THINGS that are not GIVEN");
        LostTent x = Due.pitched("100,110,220;h000,c000");
        DUE.due("of all", x.claimer(0, 6), 1);
        x.give(1, 1);
        DUE.due("of two", x.claimer(0, 6), 0);
        x.back(1);
        DUE.due("of all again", x.claimer(0, 6), 1);
        x.give(1, 0);
        DUE.due("for one who has one", x.claimer(0, 6), 0);
        x.six();
        DUE.due("the next Monday", x.claimer(0, 6), 1);
    }

    private static void ofThingsThatFit() {
        DUE.sentence("Terms 2: and FIT him");
        signOf("100,110,211,311;h000", 1);
        signOf("100,110,211,311;h001", 0);
        signOf("300,310,400,700,800;c300", 0);
        LostTent x = Due.pitched("100,110,211,311;h000,h001");
        DUE.due("claimer(1, 6)", x.claimer(1, 6), 0);
        x.remember(1, 2, 0);
        DUE.due("claimer(1, 6) as he remembers now", x.claimer(1, 6), 1);
    }

    private static void theLeastSign() {
        DUE.sentence("Terms 2: of like ones the least");
        signOf("110,110;h000", 0);
        signOf("300,411;n300", 0);
        signOf("300,410;h000", 0);
        signOf("310,411;n300", 0);
        signOf("300,311;n300", 1);
        signOf("110,120,210,220;h000", 0);
        signOf("110,954;c110", 0);
        // 2 at worst by years and by places, be there more places than years
        signOf("110,110,220,230;h000", 0);
    }

    private static void noSign() {
        DUE.sentence("Terms 2: none, if none of them FITS");
        signOf("954,954;c000", NONE);
        signOf("001,002;h000", NONE);
        LostTent x = Due.pitched("000,954;c000,h000");
        DUE.due("one fits", x.claimer(0, 6), 0);
        x.give(0, 1);
        DUE.due("what fits is given", x.claimer(0, 6), NONE);
        x.give(1, 0);
        DUE.due("all is given", x.claimer(1, 6), NONE);
        x.back(0);
        DUE.due("it is back", x.claimer(1, 6), 0);
    }
}
