/** Promises 15 to 21: see, forget, mondays, image, restore, count, digest. */
final class SeenTest {
    private static final Due DUE = new Due("SeenTest");

    public static void main(String[] args) {
        years();
        shows();
        sees();
        forgets();
        draws();
        mondayRefusals();
        images();
        counts();
        digests();
        DUE.end();
    }

    private static void yearsOf(String thing, String claimer, boolean fitted, int want) {
        LostTent x = Due.pitched(thing + ",000;" + claimer);
        x.see(0, 0, fitted);
        DUE.due("YEARS of " + thing + " by " + claimer + ", " + fitted, x.thing(0, 5), want);
        DUE.due("YEARS of another", x.thing(1, 5), 1023);
    }

    private static int bits(int from, int to) {
        int sum = 0;
        for (int year = from; year <= to; year++) sum += 1 << year;
        return sum;
    }

    private static void years() {
        yearsOf("933", "c433", true, bits(2, 6));
        yearsOf("933", "c433", false, 1023 - bits(2, 6));
        yearsOf("933", "c443", true, bits(4, 4));
        yearsOf("933", "c442", true, 0);
        yearsOf("933", "c442", false, 1023);
        yearsOf("933", "c033", true, bits(0, 2));
        yearsOf("933", "c933", true, bits(7, 9));
        yearsOf("933", "w443", true, bits(2, 6));
        yearsOf("933", "w442", true, bits(4, 4));
        yearsOf("933", "l433", true, bits(4, 4));
        yearsOf("933", "l443", true, bits(4, 4));
        yearsOf("933", "h003", true, 1023);
        yearsOf("933", "h003", false, 0);
        yearsOf("933", "h002", true, 0);
        yearsOf("933", "n403", true, bits(0, 8));
        yearsOf("933", "n402", true, bits(2, 6));
        LostTent x = Due.pitched("933,000;c433,n703,l533");
        x.see(0, 0, true);
        x.see(0, 1, true);
        DUE.due("YEARS by two", x.thing(0, 5), bits(3, 6));
        x.see(0, 2, false);
        DUE.due("YEARS by three", x.thing(0, 5), bits(3, 6) - 32);
        x.remember(2, 0, 4);
        DUE.due("YEARS as he remembers now", x.thing(0, 5), bits(3, 6) - 16);
        x.give(0, 0);
        DUE.due("YEARS when given", x.thing(0, 5), bits(3, 6) - 16);
        x.six();
        DUE.due("YEARS the next Monday", x.thing(0, 5), bits(3, 6) - 16);
        x.see(0, 0, false);
        DUE.due("YEARS when all is denied", x.thing(0, 5), 0);
        DUE.due("SHOW when there are none", x.thing(0, 6), Due.NONE);
    }

    private static void shows() {
        // by c433 5 and 5, by l533 1 and 9, by n703 7 and 3
        DUE.due("SHOW the halver", Due.pitched("933,000;l533,n703,c433").thing(0, 6), 2);
        DUE.due("SHOW the least of like ones", Due.pitched("933,000;c533,c433,c433").thing(0, 6), 0);
        DUE.due("SHOW the only one", Due.pitched("933,000;h000").thing(0, 6), 0);
        DUE.due("SHOW of a child and a colonel", Due.pitched("933,000;h000,l433").thing(0, 6), 1);
        LostTent x = Due.pitched("933,000;l533,n703,c433");
        x.see(0, 2, true);
        // of 2 to 6: by l533 1 and 4, by n703 4 and 1, by c433 5 and none
        DUE.due("SHOW of the rest", x.thing(0, 6), 0);
        x.see(0, 0, false);
        // of 2, 3, 4, 6: by l533 none and 4, by n703 3 and 1
        DUE.due("SHOW of what is left then", x.thing(0, 6), 1);
        // 000 fits n703 from 5 to 9, and the others never
        DUE.due("SHOW of another", x.thing(1, 6), 1);
    }

    private static void sees() {
        LostTent x = Due.pitched("933,000,111;c433,n703");
        for (int i = 1; i <= 7; i++) DUE.due("see() " + i, x.see(i % 3, i % 2, i % 4 == 0), i);
        DUE.due("see() of the same, 8", x.see(1, 1, false), 8);
        DUE.due("count(8)", x.count(8), 8);
        long before = x.digest();
        DUE.refused("see() above 8", x, before, x.see(0, 0, true), Due.FULL);
        for (int none : new int[] {3, -1, Integer.MIN_VALUE, Integer.MAX_VALUE}) {
            DUE.refused("see(" + none + ", 0)", x, before, x.see(none, 0, true), Due.UNKNOWN);
        }
        for (int none : new int[] {2, -1, Integer.MIN_VALUE, Integer.MAX_VALUE}) {
            DUE.refused("see(0, " + none + ")", x, before, x.see(0, none, true), Due.UNKNOWN);
        }
    }

    private static void forgets() {
        LostTent x = Due.pitched("933,000,111;c433,n703");
        DUE.due("forget() of nothing", x.forget(), 0);
        x.see(0, 0, true);
        x.see(1, 1, true);
        DUE.due("forget()", x.forget(), 2);
        DUE.due("count(8)", x.count(8), 0);
        DUE.due("YEARS behind forget()", x.thing(0, 5), 1023);
        DUE.due("forget() again", x.forget(), 0);
        DUE.due("see() behind forget()", x.see(2, 0, false), 1);
        DUE.due("YEARS of what was seen ahead of forget()", x.thing(0, 5), 1023);
    }

    private static void draws() {
        LostTent x = Due.pitched("000,954;c000,n000,h000");
        long seed = 42;
        int fitting = 0;
        int together = 0;
        for (int times = 1; times <= 60; times++) {
            long[] drawn = new long[4];
            for (int i = 0; i < 4; i++) {
                seed = (1103515245L * seed + 12345L) % 2147483648L;
                drawn[i] = seed / 65536 % new int[] {3, 10, 6, 5}[i];
            }
            LostTent other = Due.pitched("000,954;" + new String[] {"c", "n", "h"}[(int) drawn[0]]
                    + drawn[1] + drawn[2] + drawn[3]);
            for (int thing = 0; thing < 2; thing++) {
                if ((other.claimer(0, 5) >> thing & 1) == 1) {
                    fitting++;
                    together += other.wrong(thing, 0);
                }
            }
            long before = x.digest();
            DUE.due("mondays(" + times + ", 42, 0)", x.mondays(times, 42, 0), fitting);
            DUE.due("mondays(" + times + ", 42, 1)", x.mondays(times, 42, 1), together);
            DUE.due("mondays(" + times + ", 42, 2)", x.mondays(times, 42, 2), seed);
            DUE.due("digest() behind mondays()", x.digest(), before);
        }
        DUE.due("some fit", fitting > 20 && together > 20 ? 1 : 0, 1);
        int ahead = x.mondays(60, 42, 0);
        x.give(0, 0);
        x.remember(0, 0, 9);
        DUE.due("mondays() of all things, with other signs", x.mondays(60, 42, 0), ahead);
        DUE.due("mondays() of the largest seed", x.mondays(1, Integer.MAX_VALUE, 2),
                seedBehind(Integer.MAX_VALUE, 4));
        DUE.due("mondays() of the seed 0", x.mondays(1, 0, 2), seedBehind(0, 4));
    }

    private static long seedBehind(long start, int draws) {
        java.math.BigInteger seed = java.math.BigInteger.valueOf(start);
        for (int i = 0; i < draws; i++) {
            seed = seed.multiply(java.math.BigInteger.valueOf(1103515245)).add(java.math.BigInteger.valueOf(12345))
                    .mod(java.math.BigInteger.TWO.pow(31));
        }
        return seed.longValueExact();
    }

    private static void mondayRefusals() {
        LostTent x = Due.pitched("000,954;c000,n000,h000");
        long before = x.digest();
        DUE.refused("mondays(0, 1, 0)", x, before, x.mondays(0, 1, 0), Due.OUTSIDE);
        DUE.refused("mondays(61, 1, 0)", x, before, x.mondays(61, 1, 0), Due.OUTSIDE);
        DUE.refused("mondays(1, -1, 0)", x, before, x.mondays(1, -1, 0), Due.OUTSIDE);
        DUE.refused("mondays(1, 1, 3)", x, before, x.mondays(1, 1, 3), Due.OUTSIDE);
        for (int wild : Due.WILD) {
            DUE.refused("mondays(" + wild + ", 1, 0)", x, before, x.mondays(wild, 1, 0), Due.OUTSIDE);
            DUE.refused("mondays(1, 1, " + wild + ")", x, before, x.mondays(1, 1, wild), Due.OUTSIDE);
            if (wild < 0) DUE.refused("mondays(1, " + wild + ", 0)", x, before, x.mondays(1, wild, 0), Due.OUTSIDE);
        }
    }

    private static void images() {
        LostTent x = Due.pitched("312,402,254;n301,w402");
        DUE.due("restore() ahead of any image", x.restore(), Due.STATE);
        x.six();
        x.give(0, 1);
        x.remember(0, 1, 3);
        x.see(2, 0, false);
        long kept = x.digest();
        DUE.due("image()", x.image(), 1);
        DUE.due("digest() behind image()", x.digest(), kept);
        x.back(0);
        x.give(1, 0);
        x.remember(0, 1, 4);
        x.remember(1, 2, 0);
        x.six();
        x.six();
        x.forget();
        x.see(0, 1, true);
        x.see(0, 0, true);
        x.give(2, 1);
        DUE.due("restore()", x.restore(), 1);
        DUE.due("digest() behind restore()", x.digest(), kept);
        DUE.due("thing(0, 3)", x.thing(0, 3), 1);
        DUE.due("claimer(0, 1)", x.claimer(0, 1), 3);
        DUE.due("count(6)", x.count(6), 3);
        DUE.due("count(7)", x.count(7), 2);
        DUE.due("count(8)", x.count(8), 1);
        x.back(0);
        x.see(0, 0, true);
        DUE.due("restore() again", x.restore(), 1);
        DUE.due("digest() behind it", x.digest(), kept);
        x.six();
        DUE.due("image(), the latest", x.image(), 2);
        x.six();
        DUE.due("restore() of the latest", x.restore(), 2);
        DUE.due("count(5) of the latest", x.count(5), 2);
        Due.write(x, "12");
        DUE.due("restore() leaves the page", x.restore(), 2);
        DUE.due("count(9)", x.count(9), 2);
        x.blank();
        Due.write(x, "312,402,254;n301,w402");
        x.tent();
        long before = x.digest();
        DUE.refused("restore() behind the same tent", x, before, x.restore(), Due.STATE);
        DUE.due("image() behind it", x.image(), 0);
        DUE.due("restore() behind it", x.restore(), 0);
        Due.write(x, "312");
        x.tent();
        DUE.due("restore() behind a tent that was none", x.restore(), 0);
    }

    private static void counts() {
        LostTent x = Due.pitched("312,402,254,000;n301,w402,l210");
        x.six();
        x.give(2, 1);
        x.give(0, 0);
        x.see(0, 0, true);
        Due.write(x, "12345");
        int[] want = {4, 3, 2, 1, 6, 1, 4, 3, 1, 5, 1};
        for (int what = 0; what <= 10; what++) DUE.due("count(" + what + ")", x.count(what), want[what]);
        long before = x.digest();
        DUE.refused("count(11)", x, before, x.count(11), Due.OUTSIDE);
        for (int wild : Due.WILD) DUE.refused("count(" + wild + ")", x, before, x.count(wild), Due.OUTSIDE);
    }

    private static long digestByCalls(LostTent x, String page) {
        long hash = 1087;
        int things = x.count(0);
        int claimers = x.count(1);
        for (int thing = 0; thing < things; thing++) {
            for (int what = 0; what <= 6; what++) hash = 31 * hash + x.thing(thing, what);
        }
        for (int claimer = 0; claimer < claimers; claimer++) {
            for (int what = 0; what <= 6; what++) hash = 31 * hash + x.claimer(claimer, what);
            for (int thing = 0; thing < things; thing++) hash = 31 * hash + x.wrong(thing, claimer);
        }
        if (things > 0) {
            for (int what : new int[] {0, 1, 10, 11, 12}) hash = 31 * hash + x.match(what);
        }
        for (char letter : page.toCharArray()) hash = 31 * hash + letter;
        for (int what = 0; what <= 10; what++) hash = 31 * hash + x.count(what);
        return hash;
    }

    private static void digests() {
        DUE.due("digest() of a page", Due.written("~3,x").digest(), digestByCalls(Due.written("~3,x"), "~3,x"));
        LostTent x = Due.pitched("312,402,254,000;n301,w402,l210");
        DUE.due("digest() of a tent", x.digest(), digestByCalls(x, ""));
        x.six();
        x.give(2, 1);
        x.see(0, 0, true);
        x.see(1, 0, false);
        Due.write(x, "12;z");
        long first = x.digest();
        DUE.due("digest() of a tent and a page", first, digestByCalls(x, "12;z"));
        DUE.due("digest() again", x.digest(), first);
        LostTent other = Due.pitched("000,954;c000");
        DUE.due("digest() of the smallest tent", other.digest(), digestByCalls(other, ""));
        other.letter('h');
        DUE.due("digest() of it with a letter", other.digest(), digestByCalls(other, "h"));
    }
}
