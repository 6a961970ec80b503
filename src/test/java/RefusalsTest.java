import java.util.ArrayList;
import java.util.List;

/** Refusals: of several the first as told by each call, and none of them changes anything. */
final class RefusalsTest {
    private static final Due DUE = new Due("RefusalsTest");
    private static final int UNKNOWN = Due.UNKNOWN, OUTSIDE = Due.OUTSIDE, STATE = Due.STATE, FULL = Due.FULL;
    private static final int MIN = Integer.MIN_VALUE, MAX = Integer.MAX_VALUE;
    private static final int[] FAR = {MIN, MIN + 1, -1000000, -65536, -256, -105, -104, -103, -102, -101, -2, -1,
        127, 255, 256, 65535, 65536, 1000000, 1 << 30, MAX - 1, MAX};

    private interface Call {
        long on(LostTent x);
    }

    private record Refused(String name, Call call, int want) { }

    private interface Made {
        LostTent now();
    }

    private static final List<Refused> ALL = new ArrayList<>();

    public static void main(String[] args) {
        changeNothingWithNoTent();
        changeNothingWhenAllIsFull();
        changeNothingWhenNinetyNineAreOver();
        theFirstAsTold();
        farNumbers();
        DUE.end();
    }

    private static void add(String name, Call call, int want) {
        ALL.add(new Refused(name, call, want));
    }

    /** Each refused call on an object of its own, next to one that was not called. */
    private static void eachChangesNothing(Made made) {
        for (Refused refused : ALL) {
            LostTent called = made.now();
            LostTent left = made.now();
            DUE.due(refused.name, refused.call.on(called), refused.want);
            DUE.due("digest() behind " + refused.name, called.digest(), left.digest());
            DUE.due("match(0) behind it", called.match(0), left.match(0));
            DUE.due("restore() behind it", called.restore(), left.restore());
            DUE.due("digest() behind restore() and " + refused.name, called.digest(), left.digest());
        }
        ALL.clear();
    }

    private static LostTent unread() {
        return Due.written("000,00");
    }

    private static void changeNothingWithNoTent() {
        DUE.sentence("Terms 3: Refusals change nothing, with no TENT");
        addPage();
        add("tent()", LostTent::tent, STATE);
        add("thing(0, 0)", x -> x.thing(0, 0), UNKNOWN);
        add("claimer(0, 0)", x -> x.claimer(0, 0), UNKNOWN);
        add("as(0, 0)", x -> x.as(0, 0), UNKNOWN);
        add("wrong(0, 0)", x -> x.wrong(0, 0), UNKNOWN);
        add("give(0, 0)", x -> x.give(0, 0), UNKNOWN);
        add("back(0)", x -> x.back(0), UNKNOWN);
        add("remember(0, 0, 0)", x -> x.remember(0, 0, 0), UNKNOWN);
        add("six()", LostTent::six, STATE);
        add("match(0)", x -> x.match(0), STATE);
        add("match(2)", x -> x.match(2), OUTSIDE);
        add("see(0, 0, true)", x -> x.see(0, 0, true), UNKNOWN);
        add("mondays(1, 0, 0)", x -> x.mondays(1, 0, 0), STATE);
        add("mondays(0, 0, 0)", x -> x.mondays(0, 0, 0), OUTSIDE);
        add("image()", LostTent::image, STATE);
        add("restore()", LostTent::restore, STATE);
        add("count(11)", x -> x.count(11), OUTSIDE);
        eachChangesNothing(RefusalsTest::unread);
    }

    private static void addPage() {
        add("letter(0)", x -> x.letter(0), OUTSIDE);
        add("letter(127)", x -> x.letter(127), OUTSIDE);
    }

    /** A full page, eight seen, things given, and an image that is unlike what is now. */
    private static LostTent full() {
        LostTent x = Due.pitched("312,402,254,000;n301,w402,l210");
        x.six();
        x.give(0, 1);
        x.remember(0, 1, 3);
        for (int i = 0; i < 5; i++) x.see(i % 4, i % 3, i % 2 == 0);
        x.image();
        x.back(0);
        x.give(1, 0);
        x.give(2, 2);
        x.remember(2, 2, 4);
        for (int i = 0; i < 3; i++) x.see(i, i, true);
        Due.write(x, "312,402,254,000,123;n301,w402,l210,,");
        return x;
    }

    private static void changeNothingWhenAllIsFull() {
        DUE.sentence("Terms 3: Refusals change nothing, when all is full");
        LostTent x = full();
        DUE.due("count(8)", x.count(8), 8);
        DUE.due("count(9)", x.count(9), 36);
        addPage();
        add("letter(48)", y -> y.letter(48), FULL);
        add("letter(1)", y -> y.letter(1), FULL);
        add("tent()", LostTent::tent, STATE);
        addOfThings();
        addOfClaimers();
        addOfAll();
        eachChangesNothing(RefusalsTest::full);
    }

    private static void addOfThings() {
        for (int none : new int[] {-1, 4, 5, MIN, MAX}) {
            add("thing(" + none + ", 0)", x -> x.thing(none, 0), UNKNOWN);
            add("wrong(" + none + ", 0)", x -> x.wrong(none, 0), UNKNOWN);
            add("give(" + none + ", 1)", x -> x.give(none, 1), UNKNOWN);
            add("give(" + none + ", 0)", x -> x.give(none, 0), UNKNOWN);
            add("back(" + none + ")", x -> x.back(none), UNKNOWN);
            add("see(" + none + ", 0, true)", x -> x.see(none, 0, true), UNKNOWN);
        }
        for (int what : new int[] {-1, 7, MIN, MAX}) add("thing(0, " + what + ")", x -> x.thing(0, what), OUTSIDE);
        add("give(1, 1)", x -> x.give(1, 1), STATE);
        add("give(0, 0)", x -> x.give(0, 0), STATE);
        add("give(1, 0)", x -> x.give(1, 0), STATE);
        add("back(0)", x -> x.back(0), STATE);
        add("back(3)", x -> x.back(3), STATE);
    }

    private static void addOfClaimers() {
        for (int none : new int[] {-1, 3, 4, MIN, MAX}) {
            add("claimer(" + none + ", 0)", x -> x.claimer(none, 0), UNKNOWN);
            add("as(" + none + ", 0)", x -> x.as(none, 0), UNKNOWN);
            add("wrong(0, " + none + ")", x -> x.wrong(0, none), UNKNOWN);
            add("give(0, " + none + ")", x -> x.give(0, none), UNKNOWN);
            add("remember(" + none + ", 0, 0)", x -> x.remember(none, 0, 0), UNKNOWN);
            add("see(0, " + none + ", true)", x -> x.see(0, none, true), UNKNOWN);
        }
        for (int what : new int[] {-1, 7, MIN, MAX}) add("claimer(0, " + what + ")", x -> x.claimer(0, what), OUTSIDE);
        for (int kind : new int[] {-1, 5, MIN, MAX}) add("as(0, " + kind + ")", x -> x.as(0, kind), OUTSIDE);
        for (int sign : new int[] {-1, 3, MIN, MAX}) {
            add("remember(0, " + sign + ", 0)", x -> x.remember(0, sign, 0), OUTSIDE);
        }
        add("remember(0, 0, 10)", x -> x.remember(0, 0, 10), OUTSIDE);
        add("remember(0, 1, 6)", x -> x.remember(0, 1, 6), OUTSIDE);
        add("remember(0, 2, 5)", x -> x.remember(0, 2, 5), OUTSIDE);
        for (int sign = 0; sign < 3; sign++) {
            int one = sign;
            add("remember(0, " + sign + ", -1)", x -> x.remember(0, one, -1), OUTSIDE);
        }
    }

    private static void addOfAll() {
        for (int what : new int[] {-1, 2, 9, 13, MIN, MAX}) add("match(" + what + ")", x -> x.match(what), OUTSIDE);
        add("see(0, 0, true)", x -> x.see(0, 0, true), FULL);
        add("see(3, 2, false)", x -> x.see(3, 2, false), FULL);
        for (int times : new int[] {-1, 0, 61, MIN, MAX}) {
            add("mondays(" + times + ", 0, 0)", x -> x.mondays(times, 0, 0), OUTSIDE);
        }
        for (int seed : new int[] {-1, MIN}) add("mondays(1, " + seed + ", 0)", x -> x.mondays(1, seed, 0), OUTSIDE);
        for (int what : new int[] {-1, 3, MIN, MAX}) {
            add("mondays(1, 0, " + what + ")", x -> x.mondays(1, 0, what), OUTSIDE);
        }
        for (int what : new int[] {-1, 11, MIN, MAX}) add("count(" + what + ")", x -> x.count(what), OUTSIDE);
    }

    private static LostTent late() {
        LostTent x = Due.pitched("312,402;n301");
        for (int i = 1; i <= 98; i++) x.six();
        x.image();
        x.give(0, 0);
        x.six();
        x.give(1, 0);
        return x;
    }

    private static void changeNothingWhenNinetyNineAreOver() {
        DUE.sentence("Terms 3: Refusals change nothing, when 99 MONDAYS are over");
        DUE.due("count(5)", late().count(5), 99);
        add("six()", LostTent::six, FULL);
        add("tent()", LostTent::tent, STATE);
        add("back(0)", x -> x.back(0), STATE);
        add("give(0, 0)", x -> x.give(0, 0), STATE);
        eachChangesNothing(RefusalsTest::late);
    }

    private static void theFirstAsTold() {
        DUE.sentence("Terms 3: Refusals, of several the first as told by each call");
        LostTent x = full();
        DUE.due("letter: OUTSIDE ahead of FULL", x.letter(0), OUTSIDE);
        DUE.due("letter: OUTSIDE ahead of FULL", x.letter(127), OUTSIDE);
        DUE.due("thing: UNKNOWN ahead of OUTSIDE", x.thing(4, 7), UNKNOWN);
        DUE.due("claimer: UNKNOWN ahead of OUTSIDE", x.claimer(3, 7), UNKNOWN);
        DUE.due("as: UNKNOWN ahead of OUTSIDE", x.as(3, 5), UNKNOWN);
        DUE.due("give: UNKNOWN (thing) ahead of STATE (he has one)", x.give(4, 0), UNKNOWN);
        DUE.due("give: UNKNOWN (claimer) ahead of STATE (given)", x.give(1, 3), UNKNOWN);
        DUE.due("give: both UNKNOWN", x.give(4, 3), UNKNOWN);
        DUE.due("wrong: both UNKNOWN", x.wrong(4, 3), UNKNOWN);
        DUE.due("remember: UNKNOWN ahead of OUTSIDE (sign)", x.remember(3, 3, 0), UNKNOWN);
        DUE.due("remember: UNKNOWN ahead of OUTSIDE (value)", x.remember(3, 0, 10), UNKNOWN);
        DUE.due("remember: OUTSIDE, sign and value", x.remember(0, 3, 10), OUTSIDE);
        DUE.due("see: UNKNOWN (thing) ahead of FULL", x.see(4, 0, true), UNKNOWN);
        DUE.due("see: UNKNOWN (claimer) ahead of FULL", x.see(0, 3, true), UNKNOWN);
        DUE.due("mondays: OUTSIDE, all of them", x.mondays(0, -1, 3), OUTSIDE);
        LostTent none = new LostTent();
        DUE.due("match: OUTSIDE ahead of STATE", none.match(2), OUTSIDE);
        DUE.due("mondays: OUTSIDE (times) ahead of STATE", none.mondays(0, 0, 0), OUTSIDE);
        DUE.due("mondays: OUTSIDE (seed) ahead of STATE", none.mondays(1, -1, 0), OUTSIDE);
        DUE.due("mondays: OUTSIDE (what) ahead of STATE", none.mondays(1, 0, 3), OUTSIDE);
        DUE.due("thing: UNKNOWN ahead of OUTSIDE, no tent", none.thing(0, 7), UNKNOWN);
        DUE.due("claimer: UNKNOWN ahead of OUTSIDE, no tent", none.claimer(0, 7), UNKNOWN);
        DUE.due("as: UNKNOWN ahead of OUTSIDE, no tent", none.as(0, 5), UNKNOWN);
        DUE.due("remember: UNKNOWN ahead of OUTSIDE, no tent", none.remember(0, 3, 10), UNKNOWN);
    }

    /** Every argument far off at once: each call answers its refusal, and nothing is thrown. */
    private static void farNumbers() {
        DUE.sentence("Terms 3: UNKNOWN (a number names nothing), OUTSIDE (it is not as told), however far off");
        for (Made made : List.<Made>of(LostTent::new, RefusalsTest::unread, RefusalsTest::full)) {
            for (int far : FAR) {
                LostTent x = made.now();
                long before = x.digest();
                DUE.due("letter(" + far + ")", x.letter(far), OUTSIDE);
                DUE.due("thing(" + far + ", " + far + ")", x.thing(far, far), UNKNOWN);
                DUE.due("claimer(" + far + ", " + far + ")", x.claimer(far, far), UNKNOWN);
                DUE.due("as(" + far + ", " + far + ")", x.as(far, far), UNKNOWN);
                DUE.due("wrong(" + far + ", " + far + ")", x.wrong(far, far), UNKNOWN);
                DUE.due("give(" + far + ", " + far + ")", x.give(far, far), UNKNOWN);
                DUE.due("back(" + far + ")", x.back(far), UNKNOWN);
                DUE.due("remember(" + far + ", ..)", x.remember(far, far, far), UNKNOWN);
                DUE.due("match(" + far + ")", x.match(far), OUTSIDE);
                DUE.due("see(" + far + ", " + far + ")", x.see(far, far, true), UNKNOWN);
                DUE.due("mondays(" + far + ", ..)", x.mondays(far, far, far), OUTSIDE);
                DUE.due("count(" + far + ")", x.count(far), OUTSIDE);
                DUE.due("digest() behind them", x.digest(), before);
            }
        }
    }
}
