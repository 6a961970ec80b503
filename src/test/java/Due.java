/** What the tests share: answers that are due, and tents written letter by letter. */
final class Due {
    static final int NONE = LostTent.NONE, UNKNOWN = LostTent.UNKNOWN, OUTSIDE = LostTent.OUTSIDE,
            STATE = LostTent.STATE, FULL = LostTent.FULL;

    /** Numbers that no bound of the document lets in. */
    static final int[] WILD = {Integer.MIN_VALUE, -105, -104, -101, -2, -1, 1000, Integer.MAX_VALUE};

    private final String name;
    private String sentence = "";
    private int sentences;
    private int answersToIt;
    private int answers;
    private int wrong;

    Due(String name) {
        this.name = name;
        Thread watch = new Thread(this::haltIfItTakesTooLong);
        watch.setDaemon(true);
        watch.start();
    }

    /** No call may fail to end: a test that is not through by then has failed. */
    private void haltIfItTakesTooLong() {
        try {
            Thread.sleep(120_000);
        } catch (InterruptedException e) {
            return;
        }
        System.out.println(name + " [" + sentence + "]: a call does not end");
        Runtime.getRuntime().halt(1);
    }

    /** The sentence of the document that the answers from here on are about. */
    void sentence(String words) {
        closeSentence();
        sentence = words;
        sentences++;
    }

    void due(String call, long got, long want) {
        answers++;
        answersToIt++;
        if (got != want) tell(call + " answered " + got + ", due is " + want);
    }

    /** A call that is refused: the answer is due, and nothing may have changed by it. */
    void refused(String call, LostTent tent, long digestBefore, long got, long want) {
        due(call, got, want);
        due("digest() after the refused " + call, tent.digest(), digestBefore);
    }

    void end() {
        closeSentence();
        String asked = sentences == 0 ? "" : " on " + sentences + " sentences";
        System.out.println(name + ": " + answers + " answers" + asked + ", " + wrong + " not as due");
        if (wrong != 0 || answers == 0) System.exit(1);
    }

    private void closeSentence() {
        if (sentences > 0 && answersToIt == 0) tell("nothing was asked");
        answersToIt = 0;
    }

    private void tell(String fault) {
        wrong++;
        String about = sentence.isEmpty() ? "" : " [" + sentence + "]";
        if (wrong <= 20) System.out.println(name + about + ": " + fault);
    }

    static LostTent written(String text) {
        LostTent tent = new LostTent();
        write(tent, text);
        return tent;
    }

    static LostTent pitched(String text) {
        LostTent tent = written(text);
        tent.tent();
        return tent;
    }

    static void write(LostTent tent, String text) {
        for (int i = 0; i < text.length(); i++) tent.letter(text.charAt(i));
    }

    /** Tries a text on a new object: of how many things its tent is, STATE if it is none. */
    static int read(String text) {
        return written(text).tent();
    }

    /** How wrong a thing is for a claimer, both told by their texts. */
    static int wrongOf(String thing, String claimer) {
        return pitched(thing + ",000;" + claimer).wrong(0, 0);
    }

    /** The years from one to another as bits. */
    static int years(int from, int to) {
        int bits = 0;
        for (int year = from; year <= to; year++) bits |= 1 << year;
        return bits;
    }
}
