/** What the tests share: answers that are due, and tents written letter by letter. */
final class Due {
    static final int NONE = LostTent.NONE, UNKNOWN = LostTent.UNKNOWN, OUTSIDE = LostTent.OUTSIDE,
            STATE = LostTent.STATE, FULL = LostTent.FULL;

    /** Numbers that no bound of the document lets in. */
    static final int[] WILD = {Integer.MIN_VALUE, -105, -104, -101, -2, -1, 1000, Integer.MAX_VALUE};

    private final String name;
    private int answers;
    private int wrong;

    Due(String name) {
        this.name = name;
    }

    void due(String call, long got, long want) {
        answers++;
        if (got == want) return;
        wrong++;
        if (wrong <= 20) System.out.println(name + ": " + call + " answered " + got + ", due is " + want);
    }

    /** A call that is refused: the answer is due, and nothing may have changed by it. */
    void refused(String call, LostTent tent, long digestBefore, long got, long want) {
        due(call, got, want);
        due("digest() after the refused " + call, tent.digest(), digestBefore);
    }

    void end() {
        System.out.println(name + ": " + answers + " answers, " + wrong + " not as due");
        if (wrong != 0) System.exit(1);
    }

    static LostTent written(String text) {
        LostTent tent = new LostTent();
        write(tent, text);
        return tent;
    }

    static LostTent pitched(String text) {
        LostTent tent = written(text);
        tent.tent();
        return tent;
    }

    static void write(LostTent tent, String text) {
        for (int i = 0; i < text.length(); i++) tent.letter(text.charAt(i));
    }
}
