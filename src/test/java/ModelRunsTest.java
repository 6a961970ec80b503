import java.util.Random;

/** Runs of calls by fixed seeds, ordinary ones and wild ones, held against the Model. */
final class ModelRunsTest {
    private static final Due DUE = new Due("ModelRunsTest");
    private static final int RUNS = 1500, CALLS = 512;

    private final Random random;
    private final int run;
    private final LostTent program = new LostTent();
    private final Model model = new Model();
    private int calls;

    private ModelRunsTest(int run) {
        this.run = run;
        random = new Random(run);
    }

    public static void main(String[] args) {
        for (int run = 0; run < RUNS; run++) new ModelRunsTest(run).play();
        DUE.end();
    }

    private void play() {
        while (calls < CALLS - 40) {
            if (random.nextInt(60) == 0 || calls == 0 && random.nextInt(8) > 0) writeTent();
            else oneCall();
            if (random.nextInt(12) == 0) told("digest()", program.digest(), model.digest());
        }
        told("digest() at last", program.digest(), model.digest());
    }

    private void told(String call, long got, long want) {
        calls++;
        DUE.due("run " + run + ", call " + calls + ", " + call, got, want);
    }

    private int pick(int bound) {
        return random.nextInt(bound);
    }

    /** Mostly a number that is asked for, now and then one at the edge or a wild one. */
    private int near(int bound) {
        int dice = pick(40);
        if (dice == 0) return Due.WILD[pick(Due.WILD.length)];
        if (dice == 1) return pick(20) - 5;
        if (dice == 2) return bound;
        return pick(bound);
    }

    private int oneThing() {
        return near(Math.max(2, model.count(0)));
    }

    private int oneClaimer() {
        return near(Math.max(1, model.count(1)));
    }

    private void writeTent() {
        told("blank()", program.blank(), model.blank());
        StringBuilder text = new StringBuilder();
        // years and likes of a narrow choice, so that much fits and much is alike
        int years = pick(3) == 0 ? 10 : 1 + pick(4);
        int places = 1 + pick(6);
        int likes = 1 + pick(5);
        int things = 2 + pick(4);
        int claimers = 1 + pick(3);
        for (int i = 0; i < things + claimers; i++) {
            if (i > 0) text.append(i == things ? ';' : ',');
            if (i >= things) text.append("cwlhn".charAt(pick(5)));
            text.append(pick(years)).append(pick(places)).append(pick(likes));
        }
        if (pick(6) == 0) text.setCharAt(pick(text.length()), "0123456789,;cwlhn".charAt(pick(17)));
        if (pick(10) == 0) text.deleteCharAt(pick(text.length()));
        if (pick(10) == 0) text.append(",c000".charAt(pick(5)));
        for (char letter : text.toString().toCharArray()) {
            told("letter(" + (int) letter + ")", program.letter(letter), model.letter(letter));
        }
        told("fault() of " + text, program.fault(), model.fault());
        told("tent() of " + text, program.tent(), model.tent());
    }

    private void oneCall() {
        switch (pick(20)) {
            case 0 -> letter();
            case 1 -> told("fault()", program.fault(), model.fault());
            case 2 -> rare();
            case 3 -> thing();
            case 4 -> claimer();
            case 5 -> as();
            case 6 -> wrong();
            case 7, 8, 9 -> give();
            case 10 -> back();
            case 11, 12 -> remember();
            case 13 -> match();
            case 14, 15 -> see();
            case 16 -> mondays();
            case 17 -> count();
            default -> fewer();
        }
    }

    private void fewer() {
        switch (pick(6)) {
            case 0, 1 -> told("six()", program.six(), model.six());
            case 2 -> told("image()", program.image(), model.image());
            case 3 -> told("restore()", program.restore(), model.restore());
            case 4 -> told("forget()", program.forget(), model.forget());
            default -> thing();
        }
    }

    private void rare() {
        if (pick(4) > 0) return;
        if (pick(2) == 0) told("blank()", program.blank(), model.blank());
        else told("tent()", program.tent(), model.tent());
    }

    private void letter() {
        int code = pick(3) == 0 ? near(128) : "0123456789,;cwlhn".charAt(pick(17));
        told("letter(" + code + ")", program.letter(code), model.letter(code));
    }

    private void thing() {
        int thing = oneThing();
        int what = near(7);
        told("thing(" + thing + ", " + what + ")", program.thing(thing, what), model.thing(thing, what));
    }

    private void claimer() {
        int claimer = oneClaimer();
        int what = near(7);
        told("claimer(" + claimer + ", " + what + ")", program.claimer(claimer, what), model.claimer(claimer, what));
    }

    private void as() {
        int claimer = oneClaimer();
        int kind = near(5);
        told("as(" + claimer + ", " + kind + ")", program.as(claimer, kind), model.as(claimer, kind));
    }

    private void wrong() {
        int thing = oneThing();
        int claimer = oneClaimer();
        told("wrong(" + thing + ", " + claimer + ")", program.wrong(thing, claimer), model.wrong(thing, claimer));
    }

    private void give() {
        int thing = oneThing();
        int claimer = oneClaimer();
        told("give(" + thing + ", " + claimer + ")", program.give(thing, claimer), model.give(thing, claimer));
    }

    private void back() {
        int thing = oneThing();
        told("back(" + thing + ")", program.back(thing), model.back(thing));
    }

    private void remember() {
        int claimer = oneClaimer();
        int sign = near(3);
        int value = near(new int[] {10, 6, 5}[Math.floorMod(sign, 3)]);
        told("remember(" + claimer + ", " + sign + ", " + value + ")",
                program.remember(claimer, sign, value), model.remember(claimer, sign, value));
    }

    private void match() {
        int what = pick(4) == 0 ? near(14) : new int[] {0, 1, 10, 11, 12}[pick(5)];
        told("match(" + what + ")", program.match(what), model.match(what));
    }

    private void see() {
        int thing = oneThing();
        int claimer = oneClaimer();
        boolean fitted = pick(2) == 0;
        told("see(" + thing + ", " + claimer + ", " + fitted + ")",
                program.see(thing, claimer, fitted), model.see(thing, claimer, fitted));
    }

    private void mondays() {
        int times = near(61);
        int seed = pick(4) == 0 ? near(5) : random.nextInt() & Integer.MAX_VALUE;
        int what = near(3);
        told("mondays(" + times + ", " + seed + ", " + what + ")",
                program.mondays(times, seed, what), model.mondays(times, seed, what));
    }

    private void count() {
        int what = near(11);
        told("count(" + what + ")", program.count(what), model.count(what));
    }
}
