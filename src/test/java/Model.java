import java.math.BigInteger;
import java.util.ArrayList;
import java.util.List;
import java.util.TreeMap;
import java.util.regex.Matcher;
import java.util.regex.Pattern;

/**
 * The document told once more, by other means than the program's: kinds as classes, texts by a
 * pattern, sets as lists. Tests hold the program against it.
 */
final class Model {
    private static final int NONE = -1, UNKNOWN = -101, OUTSIDE = -102, STATE = -103, FULL = -104;
    private static final String SIGNS = "[0-9][0-5][0-4]";
    private static final Pattern TENT = Pattern.compile(
            SIGNS + "(," + SIGNS + "){1,4};[cwlhn]" + SIGNS + "(,[cwlhn]" + SIGNS + "){0,2}");

    static class Claimer {
        int[] signs;
        int kind() { return 0; }
        int most() { return 2; }
        int wrong(int[] t) { return year(t) + (t[1] != signs[1] ? 2 : 0) + (t[2] != signs[2] ? 2 : 0); }
        int year(int[] t) { return Math.max(t[0], signs[0]) - Math.min(t[0], signs[0]); }
        boolean fits(int[] t) { return wrong(t) <= most(); }
    }

    static class Widow extends Claimer {
        @Override int kind() { return 1; }
        @Override int wrong(int[] t) { return super.wrong(new int[] {t[0], signs[1], t[2]}); }
    }

    static final class Colonel extends Claimer {
        @Override int kind() { return 2; }
        @Override int year(int[] t) { return 3 * super.year(t); }
    }

    static final class Child extends Claimer {
        @Override int kind() { return 3; }
        @Override int wrong(int[] t) { return t[2] == signs[2] ? 0 : 3; }
    }

    static final class Nurse extends Widow {
        @Override int kind() { return 4; }
        @Override int most() { return 4; }
    }

    private record Seen(int thing, int claimer, boolean fitted) { }

    private record Way(int pairs, int wrong, List<Integer> gets) { }

    private String page = "";
    private int read;
    private List<int[]> things = new ArrayList<>();
    private List<Claimer> claimers = new ArrayList<>();
    private TreeMap<Integer, Integer> given = new TreeMap<>();
    private List<Seen> seen = new ArrayList<>();
    private int mondays, thingsLeft, claimersLeft;
    private Runnable image;
    private int imageMondays;

    private static Claimer claimerOf(String text) {
        Claimer c = switch (text.charAt(0)) {
            case 'w' -> new Widow();
            case 'l' -> new Colonel();
            case 'h' -> new Child();
            case 'n' -> new Nurse();
            default -> new Claimer();
        };
        c.signs = signsOf(text.substring(1));
        return c;
    }

    private static int[] signsOf(String text) {
        return text.chars().map(c -> c - '0').toArray();
    }

    private boolean noThing(int thing) { return thing < 0 || thing >= things.size(); }

    private boolean noClaimer(int claimer) { return claimer < 0 || claimer >= claimers.size(); }

    private boolean noTent() { return things.isEmpty(); }

    int letter(int code) {
        if (code < 1 || code > 126) return OUTSIDE;
        if (page.length() == 36) return FULL;
        page += (char) code;
        return page.length();
    }

    int blank() {
        int had = page.length();
        page = "";
        return had;
    }

    int fault() {
        int good = 0;
        for (int length = 1; length <= page.length(); length++) {
            Matcher m = TENT.matcher(page.substring(0, length));
            if (!m.matches() && !m.hitEnd()) break;
            good = length;
        }
        return good;
    }

    int tent() {
        if (!TENT.matcher(page).matches()) return STATE;
        things = new ArrayList<>();
        claimers = new ArrayList<>();
        String[] halves = page.split(";");
        for (String text : halves[0].split(",")) things.add(signsOf(text));
        for (String text : halves[1].split(",")) claimers.add(claimerOf(text));
        given = new TreeMap<>();
        seen = new ArrayList<>();
        mondays = thingsLeft = claimersLeft = 0;
        image = null;
        page = "";
        read++;
        return things.size();
    }

    private List<Integer> years(int thing) {
        List<Integer> years = new ArrayList<>();
        for (int year = 0; year <= 9; year++) {
            int[] t = {year, things.get(thing)[1], things.get(thing)[2]};
            if (seen.stream().allMatch(s -> s.thing != thing || claimers.get(s.claimer).fits(t) == s.fitted)) {
                years.add(year);
            }
        }
        return years;
    }

    private int show(int thing) {
        List<Integer> years = years(thing);
        int best = NONE;
        long fewest = 99;
        for (int c = 0; c < claimers.size() && !years.isEmpty(); c++) {
            Claimer claimer = claimers.get(c);
            int[] t = things.get(thing);
            long fit = years.stream().filter(y -> claimer.fits(new int[] {y, t[1], t[2]})).count();
            long worst = Math.max(fit, years.size() - fit);
            if (worst < fewest) {
                fewest = worst;
                best = c;
            }
        }
        return best;
    }

    private int ask(int claimer) {
        int best = NONE;
        int fewest = 99;
        for (int sign = 0; sign < 3; sign++) {
            TreeMap<Integer, Integer> groups = new TreeMap<>();
            for (int t = 0; t < things.size(); t++) {
                if (!given.containsKey(t) && claimers.get(claimer).fits(things.get(t))) {
                    groups.merge(things.get(t)[sign], 1, Integer::sum);
                }
            }
            int worst = groups.values().stream().max(Integer::compare).orElse(100);
            if (worst < fewest) {
                fewest = worst;
                best = sign;
            }
        }
        return best;
    }

    int thing(int thing, int what) {
        if (noThing(thing)) return UNKNOWN;
        if (what < 0 || what > 6) return OUTSIDE;
        if (what < 3) return things.get(thing)[what];
        if (what == 3) return given.getOrDefault(thing, NONE);
        int bits = 0;
        if (what == 4) {
            for (int c = 0; c < claimers.size(); c++) if (claimers.get(c).fits(things.get(thing))) bits += 1 << c;
            return bits;
        }
        for (int year : years(thing)) bits += 1 << year;
        return what == 5 ? bits : show(thing);
    }

    private int thingOf(int claimer) {
        return given.keySet().stream().filter(t -> given.get(t) == claimer).findFirst().orElse(NONE);
    }

    int claimer(int claimer, int what) {
        if (noClaimer(claimer)) return UNKNOWN;
        if (what < 0 || what > 6) return OUTSIDE;
        if (what < 3) return claimers.get(claimer).signs[what];
        if (what == 3) return claimers.get(claimer).kind();
        if (what == 4) return thingOf(claimer);
        if (what == 6) return ask(claimer);
        int bits = 0;
        for (int t = 0; t < things.size(); t++) if (claimers.get(claimer).fits(things.get(t))) bits += 1 << t;
        return bits;
    }

    int as(int claimer, int kind) {
        if (noClaimer(claimer)) return UNKNOWN;
        if (kind < 0 || kind > 4) return OUTSIDE;
        Class<?>[] kinds = {Claimer.class, Widow.class, Colonel.class, Child.class, Nurse.class};
        return kinds[kind].isInstance(claimers.get(claimer)) ? claimer : NONE;
    }

    int wrong(int thing, int claimer) {
        if (noThing(thing) || noClaimer(claimer)) return UNKNOWN;
        return claimers.get(claimer).wrong(things.get(thing));
    }

    int give(int thing, int claimer) {
        if (noThing(thing) || noClaimer(claimer)) return UNKNOWN;
        if (given.containsKey(thing) || given.containsValue(claimer)) return STATE;
        given.put(thing, claimer);
        return wrong(thing, claimer);
    }

    int back(int thing) {
        if (noThing(thing)) return UNKNOWN;
        Integer had = given.remove(thing);
        return had == null ? STATE : had;
    }

    int remember(int claimer, int sign, int value) {
        if (noClaimer(claimer)) return UNKNOWN;
        if (sign < 0 || sign > 2 || value < 0 || value > List.of(9, 5, 4).get(sign)) return OUTSIDE;
        int before = claimers.get(claimer).signs[sign];
        claimers.get(claimer).signs[sign] = value;
        return before;
    }

    int six() {
        if (noTent()) return STATE;
        if (mondays == 99) return FULL;
        int left = things.size() - given.size();
        mondays++;
        thingsLeft += left;
        claimersLeft += claimers.size() - given.size();
        given.clear();
        return left;
    }

    private void ways(List<Integer> gets, List<Way> all) {
        if (gets.size() == 3) {
            int pairs = 0;
            int wrong = 0;
            for (int c = 0; c < 3; c++) {
                if (gets.get(c) == NONE) continue;
                pairs++;
                wrong += wrong(gets.get(c), c);
            }
            all.add(new Way(pairs, wrong, List.copyOf(gets)));
            return;
        }
        int c = gets.size();
        for (int t = NONE; t < things.size(); t++) {
            if (t != NONE && (c >= claimers.size() || given.containsKey(t) || given.containsValue(c)
                    || gets.contains(t) || !claimers.get(c).fits(things.get(t)))) continue;
            gets.add(t);
            ways(gets, all);
            gets.remove(gets.size() - 1);
        }
    }

    private static int compare(Way a, Way b) {
        if (a.pairs != b.pairs) return b.pairs - a.pairs;
        if (a.wrong != b.wrong) return a.wrong - b.wrong;
        for (int c = 0; c < 3; c++) {
            if (!a.gets.get(c).equals(b.gets.get(c))) return a.gets.get(c) - b.gets.get(c);
        }
        return 0;
    }

    int match(int what) {
        if (!List.of(0, 1, 10, 11, 12).contains(what)) return OUTSIDE;
        if (noTent()) return STATE;
        List<Way> all = new ArrayList<>();
        ways(new ArrayList<>(), all);
        Way best = all.stream().min(Model::compare).orElseThrow();
        return what == 0 ? best.pairs : what == 1 ? best.wrong : best.gets.get(what - 10);
    }

    int see(int thing, int claimer, boolean fitted) {
        if (noThing(thing) || noClaimer(claimer)) return UNKNOWN;
        if (seen.size() == 8) return FULL;
        seen.add(new Seen(thing, claimer, fitted));
        return seen.size();
    }

    int forget() {
        int had = seen.size();
        seen.clear();
        return had;
    }

    private static BigInteger next(BigInteger seed) {
        return seed.multiply(BigInteger.valueOf(1103515245)).add(BigInteger.valueOf(12345)).mod(BigInteger.TWO.pow(31));
    }

    int mondays(int times, int seed, int what) {
        if (times < 1 || times > 60 || seed < 0 || what < 0 || what > 2) return OUTSIDE;
        if (noTent()) return STATE;
        BigInteger s = BigInteger.valueOf(seed);
        int[] told = new int[3];
        for (int i = 0; i < times; i++) {
            int[] drawn = {claimers.size(), 10, 6, 5};
            for (int k = 0; k < 4; k++) {
                s = next(s);
                drawn[k] = s.shiftRight(16).mod(BigInteger.valueOf(drawn[k])).intValueExact();
            }
            Claimer guest = claimerOf("cwlhn".charAt(claimers.get(drawn[0]).kind()) + "000");
            guest.signs = new int[] {drawn[1], drawn[2], drawn[3]};
            for (int[] t : things) {
                if (!guest.fits(t)) continue;
                told[0]++;
                told[1] += guest.wrong(t);
            }
        }
        told[2] = s.intValueExact();
        return told[what];
    }

    int image() {
        if (noTent()) return STATE;
        TreeMap<Integer, Integer> keptGiven = new TreeMap<>(given);
        List<Seen> keptSeen = List.copyOf(seen);
        List<int[]> keptSigns = claimers.stream().map(c -> c.signs.clone()).toList();
        int[] kept = {mondays, thingsLeft, claimersLeft};
        imageMondays = mondays;
        image = () -> {
            given = new TreeMap<>(keptGiven);
            seen = new ArrayList<>(keptSeen);
            for (int c = 0; c < claimers.size(); c++) claimers.get(c).signs = keptSigns.get(c).clone();
            mondays = kept[0];
            thingsLeft = kept[1];
            claimersLeft = kept[2];
        };
        return mondays;
    }

    int restore() {
        if (image == null) return STATE;
        image.run();
        return imageMondays;
    }

    int count(int what) {
        return switch (what) {
            case 0 -> things.size();
            case 1 -> claimers.size();
            case 2 -> given.size();
            case 3 -> (int) given.entrySet().stream()
                    .filter(e -> claimers.get(e.getValue()).fits(things.get(e.getKey()))).count();
            case 4 -> given.entrySet().stream().mapToInt(e -> wrong(e.getKey(), e.getValue())).sum();
            case 5 -> mondays;
            case 6 -> thingsLeft;
            case 7 -> claimersLeft;
            case 8 -> seen.size();
            case 9 -> page.length();
            case 10 -> read;
            default -> OUTSIDE;
        };
    }

    long digest() {
        List<Integer> numbers = new ArrayList<>();
        for (int t = 0; t < things.size(); t++) for (int what = 0; what < 7; what++) numbers.add(thing(t, what));
        for (int c = 0; c < claimers.size(); c++) {
            for (int what = 0; what < 7; what++) numbers.add(claimer(c, what));
            for (int t = 0; t < things.size(); t++) numbers.add(wrong(t, c));
        }
        if (!noTent()) for (int what : new int[] {0, 1, 10, 11, 12}) numbers.add(match(what));
        page.chars().forEach(numbers::add);
        for (int what = 0; what <= 10; what++) numbers.add(count(what));
        long h = 1087;
        for (int number : numbers) h = 31 * h + number;
        return h;
    }
}
