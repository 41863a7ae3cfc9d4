/** What the tests share: it prints each answer that is not the one due, and counts them. */
final class Due {
    static final int NONE = -1, UNKNOWN = -101, OUTSIDE = -102, STATE = -103, FULL = -104;
    static final int[] FAR = {Integer.MIN_VALUE, -64, -1, Integer.MAX_VALUE};

    private int wrong;

    void due(int promise, String call, long got, long want) {
        if (got != want) {
            wrong++;
            System.out.println("promise " + promise + ": " + call + " answered " + got + ", due is " + want);
        }
    }

    void that(String what, boolean holds) {
        if (!holds) {
            wrong++;
            System.out.println(what);
        }
    }

    /** A refused call between two digests: it answers as told, and it changes nothing. */
    void refused(int promise, String call, long before, long got, long want, long after) {
        due(promise, call, got, want);
        that("promise " + promise + ": " + call + ", refused, changed something", before == after);
    }

    boolean failed() {
        return wrong > 0;
    }

    void end() {
        if (wrong > 0) {
            System.out.println(wrong + " answers are not as due");
            System.exit(1);
        }
    }

    static KindWords town(String text) {
        KindWords x = new KindWords();
        read(x, text);
        return x;
    }

    static int read(KindWords x, String text) {
        type(x, text);
        return x.town();
    }

    static void type(KindWords x, String text) {
        for (int i = 0; i < text.length(); i++) {
            x.letter(text.charAt(i));
        }
    }
}
