/** Terms 1, what a tent's text is: each sentence that draws a bound, by texts at it and beyond it. */
final class TermsTextTest {
    private static final Due DUE = new Due("TermsTextTest");
    private static final String SMALLEST = "000,000;c000";

    public static void main(String[] args) {
        twoToFiveThings();
        commasBetweenThings();
        threeDigitsOfAThing();
        yearsOfThings();
        placesOfThings();
        likesOfThings();
        thenASemicolon();
        oneToThreeClaimers();
        commasBetweenClaimers();
        aLetterTheKind();
        signsOfClaimers();
        nothingBehind();
        numberedFromNothing();
        DUE.end();
    }

    private static void isTent(String text, int things) {
        DUE.due("tent() of " + text, Due.read(text), things);
        DUE.due("fault() of " + text, Due.written(text).fault(), text.length());
    }

    private static void isNone(String text) {
        DUE.due("tent() of " + text, Due.read(text), Due.STATE);
    }

    private static void isFault(String text, int place) {
        isNone(text);
        DUE.due("fault() of " + text, Due.written(text).fault(), place);
    }

    private static void twoToFiveThings() {
        DUE.sentence("Terms 1: two to five THINGS");
        isFault(";c000", 0);
        isFault("000;c000", 3);
        isTent("000,000;c000", 2);
        isTent("000,000,000;c000", 3);
        isTent("000,000,000,000;c000", 4);
        isTent("000,000,000,000,000;c000", 5);
        isFault("000,000,000,000,000,000;c000", 19);
        isFault("000,000,000,000,000,", 19);
        isNone("");
        isNone("000");
        isNone("000,000");
    }

    private static void commasBetweenThings() {
        DUE.sentence("Terms 1: THINGS with \",\" between");
        isFault("000.000;c000", 3);
        isFault("000000;c000", 3);
        isFault("000 000;c000", 3);
        isFault("000;000;c000", 3);
        isFault(",000,000;c000", 0);
        isFault("000,,000;c000", 4);
        isFault("000, 000;c000", 4);
        isFault("000,000,;c000", 8);
        isFault("000,000.000;c000", 7);
        isFault("000,000000;c000", 7);
    }

    private static void threeDigitsOfAThing() {
        DUE.sentence("Terms 1: three digits each");
        isFault("00,000;c000", 2);
        isFault("0,000;c000", 1);
        isFault("000,00;c000", 6);
        isFault("0000,000;c000", 3);
        isFault("000,0000;c000", 7);
        isFault("000,000,00;c000", 10);
    }

    /** Puts every code at a place of the smallest tent's text: some make it a tent, and no others. */
    private static void everyCodeAt(int place, String good) {
        for (int code = 1; code <= 126; code++) {
            String text = SMALLEST.substring(0, place) + (char) code + SMALLEST.substring(place + 1);
            if (good.indexOf(code) >= 0) isTent(text, 2);
            else isNone(text);
        }
    }

    private static void signOfThing(int sign, int highest) {
        String digits = "0123456789".substring(0, highest + 1);
        for (int thing = 0; thing < 2; thing++) {
            int place = thing * 4 + sign;
            everyCodeAt(place, digits);
            for (int value = 0; value <= highest; value++) {
                LostTent x = Due.pitched(SMALLEST.substring(0, place) + value + SMALLEST.substring(place + 1));
                DUE.due("thing(" + thing + ", " + sign + ") of " + value, x.thing(thing, sign), value);
                DUE.due("that sign of the other", x.thing(1 - thing, sign), 0);
            }
        }
    }

    private static void yearsOfThings() {
        DUE.sentence("Terms 1: 0 YEAR (0 to 9), of a THING");
        signOfThing(0, 9);
        isFault("/00,000;c000", 0);
        isFault(":00,000;c000", 0);
    }

    private static void placesOfThings() {
        DUE.sentence("Terms 1: 1 PLACE (0 to 5), of a THING");
        signOfThing(1, 5);
        isFault("060,000;c000", 1);
        isFault("0/0,000;c000", 1);
    }

    private static void likesOfThings() {
        DUE.sentence("Terms 1: 2 LIKE (0 to 4), of a THING");
        signOfThing(2, 4);
        isFault("005,000;c000", 2);
        isFault("00/,000;c000", 2);
    }

    private static void thenASemicolon() {
        DUE.sentence("Terms 1: then \";\"");
        everyCodeAt(7, ";");
        isFault("000,000c000", 7);
        isFault("000,000,c000", 8);
        isFault("000,000:c000", 7);
        isFault("000,000;;c000", 8);
    }

    private static void oneToThreeClaimers() {
        DUE.sentence("Terms 1: one to three CLAIMERS");
        isNone("000,000;");
        DUE.due("fault() of none yet", Due.written("000,000;").fault(), 8);
        isTent("000,000;c000", 2);
        isTent("000,000;c000,c000", 2);
        isTent("000,000;c000,c000,c000", 2);
        isFault("000,000;c000,c000,c000,c000", 22);
        isFault("000,000;c000,c000,c000,", 22);
        isTent("000,000,000,000,000;c000,c000,c000", 5);
        for (int claimers = 1; claimers <= 3; claimers++) {
            LostTent x = Due.pitched("000,000;" + "c000,c000,c000".substring(0, claimers * 5 - 1));
            DUE.due("count(1)", x.count(1), claimers);
        }
    }

    private static void commasBetweenClaimers() {
        DUE.sentence("Terms 1: CLAIMERS with \",\" between");
        isFault("000,000;c000c000", 12);
        isFault("000,000;c000;c000", 12);
        isFault("000,000;c000.c000", 12);
        isFault("000,000;c000,,c000", 13);
        isFault("000,000;,c000", 8);
        isNone("000,000;c000,");
        isNone("000,000;c000,c000,");
        DUE.due("fault() of one to come", Due.written("000,000;c000,").fault(), 13);
    }

    private static void aLetterTheKind() {
        DUE.sentence("Terms 1: each a letter, the KIND");
        everyCodeAt(8, "cwlhn");
        for (int kind = 0; kind < 5; kind++) {
            String letter = "cwlhn".substring(kind, kind + 1);
            DUE.due("claimer(0, 3) of " + letter, Due.pitched("000,000;" + letter + "000").claimer(0, 3), kind);
            DUE.due("claimer(2, 3) of " + letter,
                    Due.pitched("000,000;c000,h000," + letter + "000").claimer(2, 3), kind);
        }
        isFault("000,000;000", 8);
        isFault("000,000;cc000", 9);
        isFault("000,000;C000", 8);
        isFault("000,000;c000,x000", 13);
        isFault("000,000;c000,w000,d000", 18);
    }

    private static void signOfClaimer(int sign, int highest) {
        String digits = "0123456789".substring(0, highest + 1);
        int place = 9 + sign;
        everyCodeAt(place, digits);
        for (int value = 0; value <= highest; value++) {
            LostTent x = Due.pitched(SMALLEST.substring(0, place) + value + SMALLEST.substring(place + 1) + ",c000");
            DUE.due("claimer(0, " + sign + ") of " + value, x.claimer(0, sign), value);
            DUE.due("that sign of the other", x.claimer(1, sign), 0);
        }
    }

    private static void signsOfClaimers() {
        DUE.sentence("Terms 1: and three digits, the SIGNS that he remembers");
        signOfClaimer(0, 9);
        signOfClaimer(1, 5);
        signOfClaimer(2, 4);
        isFault("000,000;c00", 11);
        isFault("000,000;c00,c000", 11);
        isFault("000,000;c0000", 12);
        isFault("000,000;c:00", 9);
        isFault("000,000;c060", 10);
        isFault("000,000;c005", 11);
        isFault("000,000;c000,c000,c005", 21);
        isTent("954,954;n954,h954,l954", 2);
    }

    private static void nothingBehind() {
        DUE.sentence("Terms 1: A TENT is a text: nothing stands behind its last CLAIMER");
        for (int code = 1; code <= 126; code++) {
            isNone(SMALLEST + (char) code);
            isFault("000,000,000,000,000;c000,c000,c000" + (char) code, 34);
        }
        isFault("000,000,000,000,000;c000,c000,c000,,", 34);
    }

    private static void numberedFromNothing() {
        DUE.sentence("Terms 1: THINGS, CLAIMERS (numbered from 0)");
        LostTent x = Due.pitched("012,123,234,340,451;c501,w612,l723");
        for (int thing = 0; thing < 5; thing++) {
            DUE.due("YEAR of " + thing, x.thing(thing, 0), thing);
            DUE.due("PLACE of " + thing, x.thing(thing, 1), thing + 1);
            DUE.due("LIKE of " + thing, x.thing(thing, 2), (thing + 2) % 5);
        }
        for (int claimer = 0; claimer < 3; claimer++) {
            DUE.due("YEAR of claimer " + claimer, x.claimer(claimer, 0), claimer + 5);
            DUE.due("PLACE of claimer " + claimer, x.claimer(claimer, 1), claimer);
            DUE.due("LIKE of claimer " + claimer, x.claimer(claimer, 2), claimer + 1);
        }
        DUE.due("thing(5, 0)", x.thing(5, 0), Due.UNKNOWN);
        DUE.due("thing(-1, 0)", x.thing(-1, 0), Due.UNKNOWN);
        DUE.due("claimer(3, 0)", x.claimer(3, 0), Due.UNKNOWN);
        DUE.due("claimer(-1, 0)", x.claimer(-1, 0), Due.UNKNOWN);
    }
}
