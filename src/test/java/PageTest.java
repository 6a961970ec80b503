/** Promises 1 to 5: a new object, letter, blank, fault, tent. */
final class PageTest {
    private static final Due DUE = new Due("PageTest");

    public static void main(String[] args) {
        newObject();
        letters();
        blanks();
        faults();
        everyLetterEverywhere();
        tents();
        anotherTent();
        DUE.end();
    }

    private static void newObject() {
        LostTent x = new LostTent();
        long hash = 1087;
        for (int what = 0; what <= 10; what++) {
            DUE.due("count(" + what + ") of a new one", x.count(what), 0);
            hash *= 31;
        }
        DUE.due("digest() of a new one", x.digest(), hash);
        DUE.due("thing(0, 0) of a new one", x.thing(0, 0), Due.UNKNOWN);
        DUE.due("claimer(0, 0) of a new one", x.claimer(0, 0), Due.UNKNOWN);
        DUE.due("as(0, 0) of a new one", x.as(0, 0), Due.UNKNOWN);
        DUE.due("wrong(0, 0) of a new one", x.wrong(0, 0), Due.UNKNOWN);
        DUE.due("give(0, 0) of a new one", x.give(0, 0), Due.UNKNOWN);
        DUE.due("back(0) of a new one", x.back(0), Due.UNKNOWN);
        DUE.due("remember(0, 0, 0) of a new one", x.remember(0, 0, 0), Due.UNKNOWN);
        DUE.due("see(0, 0, true) of a new one", x.see(0, 0, true), Due.UNKNOWN);
        DUE.due("six() of a new one", x.six(), Due.STATE);
        DUE.due("match(0) of a new one", x.match(0), Due.STATE);
        DUE.due("match(2) of a new one", x.match(2), Due.OUTSIDE);
        DUE.due("mondays(1, 0, 0) of a new one", x.mondays(1, 0, 0), Due.STATE);
        DUE.due("mondays(0, 0, 0) of a new one", x.mondays(0, 0, 0), Due.OUTSIDE);
        DUE.due("image() of a new one", x.image(), Due.STATE);
        DUE.due("restore() of a new one", x.restore(), Due.STATE);
        DUE.due("tent() of a new one", x.tent(), Due.STATE);
        DUE.due("forget() of a new one", x.forget(), 0);
        DUE.due("blank() of a new one", x.blank(), 0);
        DUE.due("fault() of a new one", x.fault(), 0);
        DUE.due("digest() still", x.digest(), hash);
    }

    private static void letters() {
        LostTent x = new LostTent();
        DUE.due("letter(1)", x.letter(1), 1);
        DUE.due("letter(126)", x.letter(126), 2);
        long before = x.digest();
        DUE.refused("letter(0)", x, before, x.letter(0), Due.OUTSIDE);
        DUE.refused("letter(127)", x, before, x.letter(127), Due.OUTSIDE);
        for (int wild : Due.WILD) DUE.refused("letter(" + wild + ")", x, before, x.letter(wild), Due.OUTSIDE);
        for (int i = 3; i <= 36; i++) DUE.due("letter " + i, x.letter(','), i);
        before = x.digest();
        DUE.refused("the 37th letter", x, before, x.letter(','), Due.FULL);
        DUE.refused("the 37th letter, wrong too", x, before, x.letter(127), Due.OUTSIDE);
        DUE.due("count(9)", x.count(9), 36);
    }

    private static void blanks() {
        LostTent x = Due.written("abc");
        DUE.due("blank()", x.blank(), 3);
        DUE.due("blank() again", x.blank(), 0);
        DUE.due("letter() behind blank()", x.letter('0'), 1);
        DUE.due("fault() behind blank()", x.fault(), 1);
    }

    private static void faultOf(String text, int want) {
        LostTent x = Due.written(text);
        long before = x.digest();
        DUE.due("fault() of " + text, x.fault(), want);
        DUE.due("digest() behind fault()", x.digest(), before);
    }

    private static void faults() {
        faultOf("", 0);
        faultOf("9", 1);
        faultOf(":", 0);
        faultOf("/", 0);
        faultOf("95", 2);
        faultOf("96", 1);
        faultOf("954", 3);
        faultOf("955", 2);
        faultOf("000;", 3);
        faultOf("0000", 3);
        faultOf("000,", 4);
        faultOf("000,,", 4);
        faultOf("000,954;", 8);
        faultOf("000,000;C000", 8);
        faultOf("000,000;x", 8);
        faultOf("000,000;;", 8);
        faultOf("000,000;0", 8);
        faultOf("000,000;c060", 10);
        faultOf("000,000;c005", 11);
        faultOf("000,000;c954", 12);
        faultOf("000,000;c000;", 12);
        faultOf("000,000;c000,", 13);
        faultOf("000,000;c000,0", 13);
        faultOf("000,000;c000,w000,l000", 22);
        faultOf("000,000;c000,w000,l000,", 22);
        faultOf("000,000,000,000,000", 19);
        faultOf("000,000,000,000,000,", 19);
        faultOf("000,000,000,000,000;h000,n000,c000", 34);
        faultOf("000,000,000,000,000;h000,n000,c000,", 34);
        faultOf("000,000,000,000,000;h000,n000,c000..", 34);
        faultOf("x00;000,000;c000", 0);
        faultOf(";", 0);
        faultOf("00;", 2);
    }

    /** At each place of a text every code is tried; good ones are told by hand. */
    private static void everyLetterEverywhere() {
        String[] good = {"0123456789", "012345", "01234", ",", "0123456789", "012345", "01234", ",;",
            "0123456789", "012345", "01234", ",;", "0123456789", "012345", "01234", ",;",
            "0123456789", "012345", "01234", ";", "cwlhn", "0123456789", "012345", "01234", ",",
            "cwlhn", "0123456789", "012345", "01234", ",", "cwlhn", "0123456789", "012345", "01234", ""};
        StringBuilder ahead = new StringBuilder();
        for (int place = 0; place < good.length; place++) {
            for (int code = 1; code <= 126; code++) {
                LostTent x = Due.written(ahead.toString());
                x.letter(code);
                int want = good[place].indexOf(code) >= 0 ? place + 1 : place;
                DUE.due("fault() of " + ahead + (char) code, x.fault(), want);
            }
            if (!good[place].isEmpty()) ahead.append(good[place].charAt(0));
        }
    }

    private static void noTent(String text) {
        LostTent x = Due.written(text);
        long before = x.digest();
        DUE.refused("tent() of " + text, x, before, x.tent(), Due.STATE);
        DUE.due("count(9) behind it", x.count(9), text.length());
        DUE.due("count(10) behind it", x.count(10), 0);
    }

    private static void aTent(String text, int things, int claimers) {
        LostTent x = Due.written(text);
        DUE.due("tent() of " + text, x.tent(), things);
        DUE.due("count(0) behind it", x.count(0), things);
        DUE.due("count(1) behind it", x.count(1), claimers);
        DUE.due("count(9) behind it", x.count(9), 0);
        DUE.due("count(10) behind it", x.count(10), 1);
        DUE.due("thing() behind the last", x.thing(things, 0), Due.UNKNOWN);
        DUE.due("claimer() behind the last", x.claimer(claimers, 0), Due.UNKNOWN);
        DUE.due("the last sign of the last thing", x.thing(things - 1, 2), text.charAt(things * 4 - 2) - '0');
        DUE.due("the last sign of the last claimer", x.claimer(claimers - 1, 2),
                text.charAt(text.length() - 1) - '0');
    }

    private static void tents() {
        String whole = "123,954,301,442,850;n750,h301,l114";
        for (int length = 0; length < whole.length(); length++) {
            String start = whole.substring(0, length);
            if (length == 24 || length == 29) aTent(start, 5, (length - 19) / 5);
            else noTent(start);
        }
        aTent(whole, 5, 3);
        aTent("954,301;w914", 2, 1);
        aTent("954,301,123;w914,c953", 3, 2);
        aTent("954,301,123,333;w914,c953,h112", 4, 3);
        noTent("954;w914");
        noTent("954,301;w914.");
        noTent(whole + ",");
        noTent("954,301;w964");
        noTent("954,301;");
    }

    /** Another tent takes all away that was, but for how often one was read. */
    private static void anotherTent() {
        String text = "333,420;c333,n420";
        LostTent x = Due.pitched(text);
        LostTent fresh = Due.pitched(text);
        x.give(0, 0);
        x.six();
        x.give(1, 0);
        x.remember(0, 0, 9);
        x.see(0, 0, true);
        x.image();
        Due.write(x, text);
        DUE.due("tent() again", x.tent(), 2);
        DUE.due("count(10)", x.count(10), 2);
        for (int what = 0; what <= 9; what++) {
            DUE.due("count(" + what + ") behind another tent", x.count(what), fresh.count(what));
        }
        DUE.due("thing(1, 3)", x.thing(1, 3), Due.NONE);
        DUE.due("thing(0, 5)", x.thing(0, 5), 1023);
        DUE.due("claimer(0, 0)", x.claimer(0, 0), 3);
        DUE.due("restore() behind another tent", x.restore(), Due.STATE);
        Due.write(fresh, text);
        fresh.tent();
        DUE.due("digest() of both", x.digest(), fresh.digest());
        Due.write(x, "111,222,333;h444");
        DUE.due("a tent of other numbers", x.tent(), 3);
        DUE.due("its claimers", x.count(1), 1);
        DUE.due("no second claimer", x.claimer(1, 0), Due.UNKNOWN);
        Due.write(x, "111,222;h444");
        DUE.due("a tent of fewer things", x.tent(), 2);
        DUE.due("no third thing", x.thing(2, 0), Due.UNKNOWN);
        DUE.due("count(10)", x.count(10), 4);
        Due.write(x, "111,");
        long before = x.digest();
        DUE.refused("tent() of a text that is none", x, before, x.tent(), Due.STATE);
    }
}
