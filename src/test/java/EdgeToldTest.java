import java.math.BigInteger;
import java.util.ArrayList;
import java.util.List;

/** Promises 20 and 21, and how many calls an object is used for, each sentence at its bounds. */
final class EdgeToldTest {
    private static final Due DUE = new Due("EdgeToldTest");
    private static final int NONE = Due.NONE, OUTSIDE = Due.OUTSIDE;
    private static final String LARGEST = "123,954,301,442,850;n750,h301,l114";

    public static void main(String[] args) {
        thingsAndClaimers();
        thatAreGiven();
        ofTheseThatFit();
        allWrongTogether();
        mondaysThatAreOver();
        thingsLeft();
        claimersLeft();
        whatIsSeen();
        lettersOfThePage();
        howOftenRead();
        countOutside();
        beginsWith1087();
        ofEachThing();
        ofEachClaimer();
        withATent();
        lettersInOrder();
        whatCountTells();
        asLongsWrapping();
        tellsOfImagesNothing();
        fiveHundredAndTwelveCalls();
        DUE.end();
    }

    private static void thingsAndClaimers() {
        DUE.sentence("20: 0 THINGS, 1 CLAIMERS");
        DUE.due("count(0) with no tent", new LostTent().count(0), 0);
        DUE.due("count(1) with no tent", new LostTent().count(1), 0);
        for (int things = 2; things <= 5; things++) {
            for (int claimers = 1; claimers <= 3; claimers++) {
                LostTent x = Due.pitched("000,000,000,000,000".substring(0, things * 4 - 1) + ";"
                        + "c000,c000,c000".substring(0, claimers * 5 - 1));
                x.give(0, 0);
                DUE.due("count(0)", x.count(0), things);
                DUE.due("count(1)", x.count(1), claimers);
                x.six();
                DUE.due("count(0) the next Monday", x.count(0), things);
            }
        }
    }

    private static void thatAreGiven() {
        DUE.sentence("20: 2 that are GIVEN");
        LostTent x = Due.pitched("000,954,000;c000,c000,c000");
        for (int i = 0; i < 3; i++) {
            DUE.due("count(2)", x.count(2), i);
            x.give(i, 2 - i);
        }
        DUE.due("count(2) of all", x.count(2), 3);
        x.back(0);
        DUE.due("count(2) when one is back", x.count(2), 2);
        x.six();
        DUE.due("count(2) the next Monday", x.count(2), 0);
    }

    private static void ofTheseThatFit() {
        DUE.sentence("20: 3 of these that FIT");
        LostTent x = Due.pitched("000,200,300;c000,c000,c000");
        DUE.due("none given", x.count(3), 0);
        x.give(2, 0);
        DUE.due("wrong by 3", x.count(3), 0);
        x.give(1, 1);
        DUE.due("wrong by 2", x.count(3), 1);
        x.give(0, 2);
        DUE.due("wrong by nothing", x.count(3), 2);
        x.remember(0, 0, 1);
        DUE.due("as he remembers now", x.count(3), 3);
        x.six();
        DUE.due("the next Monday", x.count(3), 0);
    }

    private static void allWrongTogether() {
        DUE.sentence("20: 4 by how much all that are GIVEN are WRONG together");
        LostTent x = Due.pitched("954,954,954,000,000;l000,l000,l000");
        for (int i = 0; i < 3; i++) {
            DUE.due("count(4)", x.count(4), 31 * i);
            x.give(i, i);
        }
        DUE.due("count(4) of all", x.count(4), 93);
        DUE.due("count(3), of which none fits", x.count(3), 0);
        x.remember(1, 0, 9);
        DUE.due("count(4) as he remembers now", x.count(4), 66);
        x.back(0);
        DUE.due("count(4) when one is back", x.count(4), 35);
        LostTent fit = Due.pitched("000,200;c000,c000");
        fit.give(1, 0);
        fit.give(0, 1);
        DUE.due("count(4) of what fits", fit.count(4), 2);
        LostTent five = Due.pitched("111,222,333,444,000;c954,w000");
        DUE.due("count(4) of five, when none is given", five.count(4), 0);
        five.give(4, 1);
        DUE.due("count(4) of five, the last given rightly", five.count(4), 0);
        five.give(0, 0);
        DUE.due("count(4) of five, the first given wrongly", five.count(4), 12);
        DUE.due("count(3) of five", five.count(3), 1);
    }

    private static void mondaysThatAreOver() {
        DUE.sentence("20: 5 MONDAYS that are over");
        LostTent x = Due.pitched("000,000;c000");
        for (int over = 0; over < 99; over++) {
            DUE.due("count(5)", x.count(5), over);
            x.six();
        }
        DUE.due("count(5) at most", x.count(5), 99);
        x.six();
        DUE.due("count(5) behind a refused six()", x.count(5), 99);
        DUE.due("count(5) with no tent", new LostTent().count(5), 0);
    }

    private static void thingsLeft() {
        DUE.sentence("20: 6 THINGS that were LEFT on these");
        LostTent x = Due.pitched("000,000,000,000,000;c000,c000,c000");
        for (int over = 0; over < 99; over++) x.six();
        DUE.due("count(6) at most", x.count(6), 495);
        x.six();
        DUE.due("count(6) behind a refused six()", x.count(6), 495);
        LostTent one = Due.pitched("000,000,000,000,000;c000,c000,c000");
        DUE.due("count(6) ahead of six()", one.count(6), 0);
        one.give(3, 1);
        one.six();
        DUE.due("count(6), one given", one.count(6), 4);
        one.give(3, 1);
        one.back(3);
        one.six();
        DUE.due("count(6), one given and back", one.count(6), 9);
    }

    private static void claimersLeft() {
        DUE.sentence("20: 7 CLAIMERS that were");
        LostTent x = Due.pitched("000,000;c000,c000,c000");
        for (int over = 0; over < 99; over++) x.six();
        DUE.due("count(7) at most", x.count(7), 297);
        x.six();
        DUE.due("count(7) behind a refused six()", x.count(7), 297);
        LostTent one = Due.pitched("000,000;c000,c000,c000");
        one.give(0, 2);
        one.give(1, 0);
        DUE.due("count(7) ahead of six()", one.count(7), 0);
        one.six();
        DUE.due("count(7), two given", one.count(7), 1);
        DUE.due("count(6), two given", one.count(6), 0);
    }

    private static void whatIsSeen() {
        DUE.sentence("20: 8 what is SEEN");
        LostTent x = Due.pitched("000,000;c000");
        for (int seen = 0; seen < 8; seen++) {
            DUE.due("count(8)", x.count(8), seen);
            x.see(0, 0, true);
        }
        DUE.due("count(8) at most", x.count(8), 8);
        x.see(0, 0, true);
        DUE.due("count(8) behind a refused see()", x.count(8), 8);
        x.forget();
        DUE.due("count(8) behind forget()", x.count(8), 0);
    }

    private static void lettersOfThePage() {
        DUE.sentence("20: 9 letters of THE PAGE");
        LostTent x = new LostTent();
        for (int letters = 0; letters < 36; letters++) {
            DUE.due("count(9)", x.count(9), letters);
            x.letter('x');
        }
        DUE.due("count(9) at most", x.count(9), 36);
        x.letter('x');
        DUE.due("count(9) behind a refused letter()", x.count(9), 36);
        x.blank();
        DUE.due("count(9) behind blank()", x.count(9), 0);
        DUE.due("count(9) behind tent()", Due.pitched(LARGEST).count(9), 0);
    }

    private static void howOftenRead() {
        DUE.sentence("20: 10 how often a TENT was read");
        LostTent x = new LostTent();
        for (int read = 0; read < 30; read++) {
            DUE.due("count(10)", x.count(10), read);
            x.tent();
            Due.write(x, "000,000;c000");
            x.tent();
        }
        DUE.due("count(10) behind 30", x.count(10), 30);
        x.image();
        Due.write(x, "000,000;c000");
        x.restore();
        DUE.due("count(10) behind restore()", x.count(10), 30);
    }

    private static void countOutside() {
        DUE.sentence("20: OUTSIDE");
        LostTent[] objects = {new LostTent(), Due.pitched(LARGEST)};
        for (LostTent x : objects) {
            for (int what : new int[] {-1, 11, 12, 100, 256, 65536, Integer.MIN_VALUE, Integer.MAX_VALUE}) {
                DUE.due("count(" + what + ")", x.count(what), OUTSIDE);
            }
            DUE.due("count(0) is let in", x.count(0) >= 0 ? 1 : 0, 1);
            DUE.due("count(10) is let in", x.count(10) >= 0 ? 1 : 0, 1);
        }
    }

    private static long hashOf(List<Long> numbers) {
        BigInteger hash = BigInteger.valueOf(1087);
        for (long number : numbers) hash = hash.multiply(BigInteger.valueOf(31)).add(BigInteger.valueOf(number));
        return hash.longValue();
    }

    private static List<Long> numbersOf(LostTent x, String page) {
        List<Long> numbers = new ArrayList<>();
        for (int thing = 0; thing < x.count(0); thing++) {
            for (int what = 0; what <= 6; what++) numbers.add((long) x.thing(thing, what));
        }
        for (int c = 0; c < x.count(1); c++) {
            for (int what = 0; what <= 6; what++) numbers.add((long) x.claimer(c, what));
            for (int thing = 0; thing < x.count(0); thing++) numbers.add((long) x.wrong(thing, c));
        }
        if (x.count(0) > 0) for (int what : new int[] {0, 1, 10, 11, 12}) numbers.add((long) x.match(what));
        for (char letter : page.toCharArray()) numbers.add((long) letter);
        for (int what = 0; what <= 10; what++) numbers.add((long) x.count(what));
        return numbers;
    }

    private static void beginsWith1087() {
        DUE.sentence("21: h is 1087, then for each of these numbers, in order, 31 times h, and it");
        // with no tent and no page: eleven counts, each of them nothing
        List<Long> nothing = new ArrayList<>();
        for (int i = 0; i < 11; i++) nothing.add(0L);
        DUE.due("digest() of a new one", new LostTent().digest(), hashOf(nothing));
        nothing.add(0, 120L);
        nothing.set(10, 1L);
        DUE.due("digest() of one letter", Due.written("x").digest(), hashOf(nothing));
    }

    /** The smallest tent's numbers, told by hand; the same but for some, by their places. */
    private static List<Long> smallest() {
        long[] numbers = {
            0, 0, 0, NONE, 1, 1023, 0,
            9, 5, 4, NONE, 0, 1023, 0,
            0, 0, 0, 0, NONE, 1, 0, 0, 13,
            1, 0, 0, NONE, NONE,
            2, 1, 0, 0, 0, 0, 0, 0, 0, 0, 1};
        List<Long> all = new ArrayList<>();
        for (long number : numbers) all.add(number);
        return all;
    }

    private static void ofEachThing() {
        DUE.sentence("21: of each THING what thing() tells for 0 to 6");
        List<Long> numbers = smallest();
        LostTent x = Due.pitched("000,954;c000");
        DUE.due("digest() of the smallest", x.digest(), hashOf(numbers));
        // by 954 nothing of it fits: all ten years are left
        x.see(0, 0, true);
        numbers.set(5, 7L);
        numbers.set(36, 1L);
        DUE.due("digest() when something is seen", x.digest(), hashOf(numbers));
        x.see(0, 0, false);
        numbers.set(5, 0L);
        numbers.set(6, (long) NONE);
        numbers.set(36, 2L);
        DUE.due("digest() when no year is left", x.digest(), hashOf(numbers));
    }

    private static void ofEachClaimer() {
        DUE.sentence("21: of each CLAIMER what claimer() tells for 0 to 6, then by how much each THING is WRONG for him");
        List<Long> numbers = smallest();
        LostTent x = Due.pitched("000,954;c000");
        x.give(1, 0);
        numbers.set(10, 0L);
        numbers.set(18, 1L);
        numbers.set(23, 0L);
        numbers.set(25, (long) NONE);
        numbers.set(30, 1L);
        numbers.set(32, 13L);
        DUE.due("digest() when one is given", x.digest(), hashOf(numbers));
        LostTent three = Due.pitched(LARGEST);
        DUE.due("digest() of the largest", three.digest(), hashOf(numbersOf(three, "")));
        DUE.due("its numbers", numbersOf(three, "").size(), 5 * 7 + 3 * (7 + 5) + 5 + 11);
    }

    private static void withATent() {
        DUE.sentence("21: with a TENT what match() tells for 0, 1 and 10 to 12");
        List<Long> numbers = smallest();
        LostTent x = Due.pitched("000,954;c000");
        x.remember(0, 0, 1);
        // thing 0 is wrong by 1 then, and thing 1 by 12
        numbers.set(14, 1L);
        numbers.set(21, 1L);
        numbers.set(22, 12L);
        numbers.set(24, 1L);
        DUE.due("digest()", x.digest(), hashOf(numbers));
        LostTent none = Due.written("000,954;c000");
        List<Long> page = new ArrayList<>();
        for (char letter : "000,954;c000".toCharArray()) page.add((long) letter);
        for (int what = 0; what <= 10; what++) page.add(what == 9 ? 12L : 0L);
        DUE.due("digest() ahead of tent(): no match()", none.digest(), hashOf(page));
    }

    private static void lettersInOrder() {
        DUE.sentence("21: letters of THE PAGE");
        LostTent x = Due.pitched("000,954;c000");
        List<Long> numbers = smallest();
        numbers.set(37, 2L);
        numbers.add(28, 126L);
        numbers.add(29, 1L);
        x.letter(126);
        x.letter(1);
        DUE.due("digest() of two letters", x.digest(), hashOf(numbers));
        x.blank();
        DUE.due("digest() of none", x.digest(), hashOf(smallest()));
        StringBuilder full = new StringBuilder();
        for (int i = 0; i < 36; i++) full.append((char) (91 + i));
        LostTent whole = Due.written(full.toString());
        DUE.due("digest() of a full page", whole.digest(), hashOf(numbersOf(whole, full.toString())));
        LostTent both = Due.pitched(LARGEST);
        Due.write(both, full.toString());
        DUE.due("digest() of a tent and a full page", both.digest(), hashOf(numbersOf(both, full.toString())));
    }

    private static void whatCountTells() {
        DUE.sentence("21: what count() tells for 0 to 10");
        LostTent x = Due.pitched("000,954;c000");
        List<Long> numbers = smallest();
        x.six();
        x.six();
        numbers.set(33, 2L);
        numbers.set(34, 4L);
        numbers.set(35, 2L);
        DUE.due("digest() behind two Mondays", x.digest(), hashOf(numbers));
        Due.write(x, "000,954;c000");
        x.tent();
        List<Long> read = smallest();
        read.set(38, 2L);
        DUE.due("digest() of a tent read twice", x.digest(), hashOf(read));
    }

    private static void asLongsWrapping() {
        DUE.sentence("21: (as longs, wrapping)");
        BigInteger hash = BigInteger.valueOf(1087);
        for (long number : smallest()) hash = hash.multiply(BigInteger.valueOf(31)).add(BigInteger.valueOf(number));
        DUE.due("it is beyond a long", hash.bitLength() > 64 ? 1 : 0, 1);
        BigInteger rest = hash.mod(BigInteger.TWO.pow(64));
        if (rest.testBit(63)) rest = rest.subtract(BigInteger.TWO.pow(64));
        DUE.due("digest()", Due.pitched("000,954;c000").digest(), rest.longValueExact());
        DUE.due("it is beyond an int", Due.pitched("000,954;c000").digest() >> 32 == 0 ? 1 : 0, 0);
    }

    private static void tellsOfImagesNothing() {
        DUE.sentence("21: of these numbers, and of no other; nothing changes by it");
        LostTent x = Due.pitched(LARGEST);
        long before = x.digest();
        DUE.due("digest() again", x.digest(), before);
        x.image();
        DUE.due("digest() behind image()", x.digest(), before);
        x.mondays(5, 5, 0);
        DUE.due("digest() behind mondays()", x.digest(), before);
        DUE.due("digest() of another of the same text", Due.pitched(LARGEST).digest(), before);
        DUE.due("count(2)", x.count(2), 0);
    }

    private static void fiveHundredAndTwelveCalls() {
        DUE.sentence("An object is used for at most 512 calls after it has been made");
        LostTent x = Due.pitched(LARGEST);
        for (int call = LARGEST.length() + 2; call <= 511; call++) {
            DUE.due("call " + call, x.count(call % 2), call % 2 == 0 ? 5 : 3);
        }
        DUE.due("call 512", x.digest(), Due.pitched(LARGEST).digest());
        LostTent dear = Due.pitched("000,000,000,000,000;h000,h000,h000");
        for (int call = 36; call <= 512; call++) {
            if (call % 2 == 0) DUE.due("call " + call, dear.match(12), 2);
            else DUE.due("call " + call, dear.mondays(60, 2147483647, 0) % 5, 0);
        }
    }
}
