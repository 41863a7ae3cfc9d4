/** Promises 13 and 14: most and who, also against all ways to share the sayings out. */
public final class MostTest {
    private static final Due d = new Due();

    public static void main(String[] args) {
        most();
        release();
        needs();
        nobodyFirst();
        leastNumberFirst();
        refused();
        allSmallTowns();
        d.end();
    }

    private static void most() {
        KindWords x = Due.town("75,36,52;3");
        d.due(13, "most(0), no convicts", x.most(0), 0);
        d.due(13, "most(1), no convicts", x.most(1), 1);
        x.convict(4, 0, 3, 63);
        x.convict(2, 1, 4, 21);
        x.convict(3, 0, 2, 42);
        x.convict(0, 2, 1, 0);
        d.due(13, "most(0)", x.most(0), 7);
        d.due(13, "most(1)", x.most(1), 0);
        int[] who = {0, Due.NONE, 0, 2, 0, 2};
        for (int saying = 0; saying < 6; saying++) {
            d.due(14, "who(0, " + saying + ")", x.who(0, saying), who[saying]);
        }
        int[] forger = {Due.NONE, Due.NONE, 1, Due.NONE, 1, Due.NONE};
        for (int saying = 0; saying < 6; saying++) {
            d.due(14, "who(1, " + saying + ")", x.who(1, saying), forger[saying]);
            d.due(14, "who(2, " + saying + ")", x.who(2, saying), Due.NONE);
        }
    }

    private static void release() {
        KindWords x = Due.town("77,77,77;0");
        x.convict(0, 0, 3, 7);
        x.convict(0, 0, 3, 63);
        d.due(13, "most(0)", x.most(0), 6);
        d.due(13, "most(1)", x.most(1), 1);
        x.say(1, 0);
        d.due(13, "most(0), one used that the other needs", x.most(0), 4);
        d.due(13, "most(1), one used that the other needs", x.most(1), 0);
        KindWords y = Due.town("77,77,77;0");
        y.convict(0, 0, 1, 1);
        y.say(0, 0);
        d.due(13, "most(0), all have paid", y.most(0), 0);
        d.due(13, "most(1), all have paid", y.most(1), 1);
        d.due(14, "who(0, 1), all have paid", y.who(0, 1), Due.NONE);
    }

    private static void needs() {
        KindWords x = Due.town("77,77,00;9");
        x.convict(3, 0, 2, 63);
        x.convict(2, 2, 1, 63);
        d.due(13, "most(0), a miser needs twice his fine", x.most(0), 4);
        d.due(13, "most(1), sheets do not matter", x.most(1), 0);
        x.say(0, 0);
        d.due(13, "most(0), one less behind an odd one", x.most(0), 3);
        x.night();
        x.say(0, 1);
        d.due(13, "most(0), behind an even one", x.most(0), 2);
    }

    private static void nobodyFirst() {
        KindWords x = Due.town("77,77,77;0");
        x.convict(0, 1, 2, 63);
        int[] who = {Due.NONE, Due.NONE, Due.NONE, Due.NONE, 0, 0};
        for (int saying = 0; saying < 6; saying++) {
            d.due(14, "who(1, " + saying + ")", x.who(1, saying), who[saying]);
        }
    }

    private static void leastNumberFirst() {
        KindWords x = Due.town("77,77,77;0");
        x.convict(0, 1, 3, 63);
        x.convict(0, 1, 3, 35);
        int[] who = {1, 1, 0, 0, 0, 1};
        for (int saying = 0; saying < 6; saying++) {
            d.due(14, "who(1, " + saying + ")", x.who(1, saying), who[saying]);
        }
        d.due(14, "most(0) behind who()", x.most(0), 6);
        KindWords y = Due.town("77,77,77;0");
        y.convict(0, 1, 3, 63);
        y.convict(0, 1, 3, 63);
        int[] then = {0, 0, 0, 1, 1, 1};
        for (int saying = 0; saying < 6; saying++) {
            d.due(14, "who(1, " + saying + ")", y.who(1, saying), then[saying]);
        }
    }

    private static void refused() {
        KindWords x = Due.town("77,77,77;0");
        d.due(13, "most(2)", x.most(2), Due.OUTSIDE);
        d.due(14, "who(3, 0)", x.who(3, 0), Due.UNKNOWN);
        d.due(14, "who(0, 6)", x.who(0, 6), Due.UNKNOWN);
        for (int far : Due.FAR) {
            d.due(13, "most(" + far + ")", x.most(far), Due.OUTSIDE);
            d.due(14, "who(" + far + ", 0)", x.who(far, 0), Due.UNKNOWN);
            d.due(14, "who(0, " + far + ")", x.who(0, far), Due.UNKNOWN);
        }
    }

    // Three convicts of one victim, each by some fines and each by all that he may know of three sayings.
    private static void allSmallTowns() {
        int[] fine = new int[3];
        for (int fines = 0; fines < 27 && !d.failed(); fines++) {
            fine[0] = 1 + fines % 3;
            fine[1] = 1 + fines / 3 % 3;
            fine[2] = 1 + fines / 9;
            for (int known = 0; known < 512; known++) {
                KindWords x = Due.town("07,00,00;0");
                Model m = new Model();
                for (char letter : "07,00,00;0".toCharArray()) {
                    m.letter(letter);
                }
                m.town();
                for (int c = 0; c < 3; c++) {
                    int kind = c == 1 ? 3 : 0;
                    x.convict(kind, 0, fine[c], known >> 3 * c & 7);
                    m.convict(kind, 0, fine[c], known >> 3 * c & 7);
                }
                String told = "fines " + fines + " known " + known + ": ";
                d.due(13, told + "most(0)", x.most(0), m.most(0));
                d.due(13, told + "most(1)", x.most(1), m.most(1));
                for (int saying = 0; saying < 3; saying++) {
                    d.due(14, told + "who(0, " + saying + ")", x.who(0, saying), m.who(0, saying));
                }
            }
        }
    }
}
