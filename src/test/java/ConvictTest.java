/** Promises 7 to 12: convict, about, as, say, learn, night. */
public final class ConvictTest {
    private static final Due d = new Due();

    public static void main(String[] args) {
        convict();
        convictRefused();
        about();
        aboutRefused();
        days();
        daysOfMiser();
        find();
        as();
        say();
        sayRefused();
        forger();
        miser();
        learn();
        night();
        d.end();
    }

    private static void convict() {
        KindWords x = Due.town("77,77,77;9");
        int[] perDay = {1, 2, 1, 1, 3};
        for (int kind = 0; kind < 4; kind++) {
            d.due(7, "convict(" + kind + ", 2, 9, 63)", x.convict(kind, 2, 9, 63), kind);
            d.due(7, "about(.., 5)", x.about(kind, 5), perDay[kind]);
        }
        d.due(7, "a fifth", x.convict(0, 0, 1, 0), Due.FULL);
        d.due(7, "a fifth of victim 3", x.convict(0, 3, 1, 0), Due.UNKNOWN);
        d.due(7, "a fifth of kind 5", x.convict(5, 3, 1, 0), Due.OUTSIDE);
        d.due(7, "count(2)", x.count(2), 4);
        KindWords y = Due.town("77,77,77;9");
        d.due(7, "convict(4, 0, 1, 0)", y.convict(4, 0, 1, 0), 0);
        d.due(7, "about(0, 5)", y.about(0, 5), perDay[4]);
    }

    private static void convictRefused() {
        KindWords x = Due.town("77,77,77;9");
        d.due(7, "convict(5, 0, 1, 0)", x.convict(5, 0, 1, 0), Due.OUTSIDE);
        d.due(7, "convict(0, 0, 0, 0)", x.convict(0, 0, 0, 0), Due.OUTSIDE);
        d.due(7, "convict(0, 0, 10, 0)", x.convict(0, 0, 10, 0), Due.OUTSIDE);
        d.due(7, "convict(0, 0, 1, 64)", x.convict(0, 0, 1, 64), Due.OUTSIDE);
        d.due(7, "convict(0, 3, 1, 0)", x.convict(0, 3, 1, 0), Due.UNKNOWN);
        for (int far : Due.FAR) {
            d.due(7, "kind " + far, x.convict(far, 0, 1, 0), Due.OUTSIDE);
            d.due(7, "victim " + far, x.convict(0, far, 1, 0), Due.UNKNOWN);
            d.due(7, "fine " + far, x.convict(0, 0, far, 0), Due.OUTSIDE);
            d.due(7, "knows " + far, x.convict(0, 0, 1, far), Due.OUTSIDE);
            d.due(7, "victim and knows " + far, x.convict(0, far, 1, far), Due.OUTSIDE);
        }
        d.due(7, "count(2)", x.count(2), 0);
    }

    private static void about() {
        KindWords x = Due.town("75,36,52;3");
        x.convict(4, 0, 3, 63);
        x.convict(2, 1, 4, 21);
        int[] bard = {4, 0, 3, 63, 61, 3, 0, 1, 0};
        int[] forger = {2, 1, 4, 21, 20, 1, 0, Due.NONE, 2};
        for (int what = 0; what <= 8; what++) {
            d.due(8, "about(0, " + what + ")", x.about(0, what), bard[what]);
            d.due(8, "about(1, " + what + ")", x.about(1, what), forger[what]);
        }
        x.say(0, 0);
        x.say(0, 1);
        x.say(1, 0);
        int[] bardThen = {4, 0, 2, 63, 60, 1, 1, 2, 0};
        int[] forgerThen = {2, 1, 3, 21, 20, 0, 1, Due.NONE, 1};
        for (int what = 0; what <= 8; what++) {
            d.due(8, "about(0, " + what + ") then", x.about(0, what), bardThen[what]);
            d.due(8, "about(1, " + what + ") then", x.about(1, what), forgerThen[what]);
        }
    }

    private static void aboutRefused() {
        KindWords x = Due.town("77,77,77;9");
        x.convict(0, 0, 1, 1);
        d.due(8, "about(1, 0)", x.about(1, 0), Due.UNKNOWN);
        d.due(8, "about(0, 9)", x.about(0, 9), Due.OUTSIDE);
        for (int far : Due.FAR) {
            d.due(8, "about(" + far + ", 9)", x.about(far, 9), Due.UNKNOWN);
            d.due(8, "about(0, " + far + ")", x.about(0, far), Due.OUTSIDE);
        }
    }

    private static void days() {
        KindWords x = Due.town("77,77,70;9");
        x.convict(0, 0, 6, 63);
        x.convict(1, 1, 6, 63);
        x.convict(4, 1, 6, 63);
        x.convict(0, 2, 4, 63);
        d.due(8, "about(0, 7), six by one a day", x.about(0, 7), 6);
        d.due(8, "about(1, 7), six by two a day", x.about(1, 7), 3);
        d.due(8, "about(2, 7), six by three a day", x.about(2, 7), 2);
        d.due(8, "about(3, 7), three are too few", x.about(3, 7), Due.NONE);
        x.say(0, 0);
        d.due(8, "about(0, 7), none more today", x.about(0, 7), 6);
        x.say(1, 0);
        d.due(8, "about(1, 7), one more today", x.about(1, 7), 3);
        d.due(8, "about(2, 7), one was used", x.about(2, 7), Due.NONE);
        KindWords y = Due.town("77,77,70;9");
        y.convict(4, 0, 1, 1);
        y.say(0, 0);
        d.due(8, "about(0, 7), paid", y.about(0, 7), 0);
        d.due(8, "about(0, 5), paid", y.about(0, 5), 2);
        d.due(8, "about(0, 8), paid", y.about(0, 8), 0);
        y.night();
        d.due(8, "about(0, 5), paid, next day", y.about(0, 5), 3);
        wornOut();
    }

    private static void wornOut() {
        KindWords x = Due.town("70,77,77;0");
        x.convict(0, 0, 3, 57);
        x.say(0, 0);
        d.due(8, "about(0, 7), spoiled today, three to say", x.about(0, 7), 4);
        d.due(8, "about(0, 6), spoiled", x.about(0, 6), 0);
    }

    private static void daysOfMiser() {
        KindWords x = Due.town("77,77,77;9");
        x.convict(3, 0, 3, 63);
        x.convict(3, 0, 4, 63);
        d.due(8, "about(0, 7), a miser of 3", x.about(0, 7), 6);
        d.due(8, "about(1, 7), a miser of 4", x.about(1, 7), Due.NONE);
        d.due(8, "about(1, 8), a miser of 4", x.about(1, 8), Due.NONE);
        x.say(0, 0);
        d.due(8, "about(0, 2)", x.about(0, 2), 3);
        d.due(8, "about(0, 7), five to say from tomorrow", x.about(0, 7), 6);
        x.night();
        d.due(8, "about(0, 7), five to say from today", x.about(0, 7), 5);
    }

    private static void find() {
        KindWords x = Due.town("77,36,00;9");
        x.convict(0, 0, 6, 3);
        x.convict(0, 1, 4, 33);
        x.convict(3, 1, 2, 2);
        x.convict(0, 2, 1, 63);
        d.due(8, "about(0, 8)", x.about(0, 8), 4);
        d.due(8, "about(1, 8)", x.about(1, 8), 4);
        d.due(8, "about(2, 8)", x.about(2, 8), 3);
        d.due(8, "about(3, 8)", x.about(3, 8), Due.NONE);
        x.say(2, 1);
        d.due(8, "about(1, 8), one is used", x.about(1, 8), Due.NONE);
        d.due(8, "about(2, 8), one counted", x.about(2, 8), 3);
        x.learn(2, 2);
        d.due(8, "about(2, 8), one learned", x.about(2, 8), 2);
        x.learn(2, 5);
        d.due(8, "about(2, 8), one learned that is not true", x.about(2, 8), 2);
        x.learn(2, 3);
        x.learn(2, 4);
        d.due(8, "about(2, 8), enough", x.about(2, 8), 0);
    }

    private static void as() {
        boolean[][] isA = {
            {true, false, false, false, false},
            {true, true, false, false, false},
            {true, false, true, false, false},
            {true, false, false, true, false},
            {true, true, false, false, true}};
        for (int kind = 0; kind < 5; kind++) {
            KindWords x = Due.town("77,77,77;9");
            x.convict(0, 0, 1, 1);
            x.convict(kind, 0, 1, 1);
            for (int asked = 0; asked < 5; asked++) {
                d.due(9, "kind " + kind + " as " + asked, x.as(1, asked), isA[kind][asked] ? 1 : Due.NONE);
            }
            d.due(9, "as(2, 0)", x.as(2, 0), Due.UNKNOWN);
            d.due(9, "as(1, 5)", x.as(1, 5), Due.OUTSIDE);
            for (int far : Due.FAR) {
                d.due(9, "as(" + far + ", 5)", x.as(far, 5), Due.UNKNOWN);
                d.due(9, "as(0, " + far + ")", x.as(0, far), Due.OUTSIDE);
            }
        }
    }

    private static void say() {
        KindWords x = Due.town("75,36,52;3");
        x.convict(4, 0, 3, 63);
        x.convict(1, 0, 1, 61);
        x.convict(0, 1, 1, 63);
        d.due(10, "say(0, 0), true and new", x.say(0, 0), 1);
        d.due(10, "say(0, 1), not true", x.say(0, 1), 0);
        d.due(10, "say(0, 0), used", x.say(0, 0), 0);
        d.due(10, "say(0, 2), a fourth", x.say(0, 2), Due.STATE);
        d.due(10, "say(1, 0), used by another", x.say(1, 0), 0);
        d.due(10, "say(1, 2)", x.say(1, 2), 1);
        d.due(10, "say(2, 2), used of another victim", x.say(2, 2), 1);
        d.due(10, "about(0, 2)", x.about(0, 2), 2);
        d.due(10, "about(1, 2)", x.about(1, 2), 0);
        d.due(10, "victim(0, 1)", x.victim(0, 1), 5);
        d.due(10, "victim(1, 1)", x.victim(1, 1), 4);
        d.due(10, "count(1), no sheet taken", x.count(1), 3);
    }

    private static void sayRefused() {
        KindWords x = Due.town("77,77,77;9");
        x.convict(1, 0, 1, 3);
        d.due(10, "say(0, 2), not known", x.say(0, 2), Due.STATE);
        d.due(10, "about(0, 5)", x.about(0, 5), 2);
        d.due(10, "say(1, 0)", x.say(1, 0), Due.UNKNOWN);
        d.due(10, "say(0, 6)", x.say(0, 6), Due.UNKNOWN);
        d.due(10, "say(0, 32)", x.say(0, 32), Due.UNKNOWN);
        for (int far : Due.FAR) {
            d.due(10, "say(" + far + ", 0)", x.say(far, 0), Due.UNKNOWN);
            d.due(10, "say(0, " + far + ")", x.say(0, far), Due.UNKNOWN);
        }
        d.due(10, "say(0, 0)", x.say(0, 0), 1);
        d.due(10, "say(0, 1), paid", x.say(0, 1), Due.STATE);
        d.due(10, "say(0, 6), paid", x.say(0, 6), Due.UNKNOWN);
        d.due(10, "about(0, 5), paid", x.about(0, 5), 1);
        x.night();
        d.due(10, "say(0, 1), paid, next day", x.say(0, 1), Due.STATE);
    }

    private static void forger() {
        KindWords x = Due.town("01,00,77;1");
        x.convict(2, 0, 5, 63);
        x.convict(2, 1, 5, 63);
        x.convict(1, 0, 5, 63);
        d.due(10, "say(2, 5), not true, no forger", x.say(2, 5), 0);
        d.due(10, "say(0, 0), true by a forger", x.say(0, 0), 1);
        d.due(10, "count(1), no sheet taken", x.count(1), 1);
        x.night();
        d.due(10, "say(0, 0), used by a forger", x.say(0, 0), 0);
        d.due(10, "count(1), no sheet taken", x.count(1), 1);
        x.night();
        d.due(10, "say(0, 5), forged", x.say(0, 5), 1);
        d.due(10, "count(1), a sheet taken", x.count(1), 0);
        d.due(10, "victim(0, 1), a forged one is used", x.victim(0, 1), 33);
        d.due(10, "about(0, 2)", x.about(0, 2), 3);
        d.due(10, "about(0, 6)", x.about(0, 6), 2);
        d.due(10, "say(1, 0), no sheet is left", x.say(1, 0), 0);
        d.due(10, "victim(1, 1)", x.victim(1, 1), 0);
        d.due(10, "about(1, 5)", x.about(1, 5), 0);
    }

    private static void miser() {
        KindWords x = Due.town("77,77,77;9");
        x.convict(3, 0, 2, 63);
        int[] fines = {2, 1, 1, 0};
        for (int saying = 0; saying < 4; saying++) {
            d.due(10, "say(0, " + saying + ") by a miser", x.say(0, saying), 1);
            d.due(10, "about(0, 2) of a miser", x.about(0, 2), fines[saying]);
            d.due(10, "about(0, 6) of a miser", x.about(0, 6), saying + 1);
            x.night();
        }
        d.due(10, "say(0, 4) by a miser who has paid", x.say(0, 4), Due.STATE);
        d.due(10, "count(3)", x.count(3), 1);
    }

    private static void learn() {
        KindWords x = Due.town("77,77,77;9");
        x.convict(1, 0, 1, 1);
        x.convict(1, 0, 1, 0);
        d.due(11, "learn(0, 0)", x.learn(0, 0), 0);
        d.due(11, "learn(0, 5)", x.learn(0, 5), 1);
        d.due(11, "learn(0, 5)", x.learn(0, 5), 0);
        d.due(11, "about(0, 3)", x.about(0, 3), 33);
        d.due(11, "about(1, 3)", x.about(1, 3), 0);
        d.due(11, "about(0, 4)", x.about(0, 4), 33);
        d.due(11, "learn(2, 0)", x.learn(2, 0), Due.UNKNOWN);
        d.due(11, "learn(0, 6)", x.learn(0, 6), Due.UNKNOWN);
        for (int far : Due.FAR) {
            d.due(11, "learn(" + far + ", 0)", x.learn(far, 0), Due.UNKNOWN);
            d.due(11, "learn(0, " + far + ")", x.learn(0, far), Due.UNKNOWN);
        }
        d.due(11, "say(0, 5)", x.say(0, 5), 1);
        d.due(11, "learn(0, 1), paid", x.learn(0, 1), 1);
    }

    private static void night() {
        KindWords x = Due.town("00,00,00;0");
        int[] kinds = {0, 1, 2, 4};
        for (int kind : kinds) {
            x.convict(kind, 0, 9, 63);
        }
        for (int c = 0; c < 4; c++) {
            for (int n = 0; n < 3; n++) {
                x.say(c, 0);
            }
            d.due(12, "about(" + c + ", 5)", x.about(c, 5), 0);
        }
        d.due(12, "night()", x.night(), 1);
        int[] perDay = {1, 2, 1, 3};
        for (int c = 0; c < 4; c++) {
            d.due(12, "about(" + c + ", 5)", x.about(c, 5), perDay[c]);
        }
        d.due(12, "night()", x.night(), 2);
        for (int c = 0; c < 4; c++) {
            d.due(12, "about(" + c + ", 5), not said and not saved", x.about(c, 5), perDay[c]);
        }
        d.due(12, "count(6)", x.count(6), 2);
    }
}
