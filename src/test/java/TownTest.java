/** Promises 1 to 6: a new object, letter, blank, fault, town, victim. */
public final class TownTest {
    private static final Due d = new Due();

    public static void main(String[] args) {
        newObject();
        withoutTown();
        letter();
        blank();
        fault();
        faultAtEachPlace();
        town();
        townRefused();
        townGone();
        victim();
        victimRefused();
        d.end();
    }

    private static void newObject() {
        KindWords x = new KindWords();
        for (int what = 0; what <= 9; what++) {
            d.due(1, "count(" + what + ")", x.count(what), 0);
        }
        d.due(1, "blank()", x.blank(), 0);
        d.due(1, "fault()", x.fault(), 0);
        d.due(1, "forget()", x.forget(), 0);
    }

    private static void withoutTown() {
        KindWords x = new KindWords();
        d.due(1, "victim(0, 0)", x.victim(0, 0), Due.UNKNOWN);
        d.due(1, "victim(0, 9)", x.victim(0, 9), Due.UNKNOWN);
        d.due(1, "convict(0, 0, 1, 0)", x.convict(0, 0, 1, 0), Due.UNKNOWN);
        d.due(1, "convict(5, 0, 1, 0)", x.convict(5, 0, 1, 0), Due.OUTSIDE);
        d.due(1, "about(0, 0)", x.about(0, 0), Due.UNKNOWN);
        d.due(1, "as(0, 0)", x.as(0, 0), Due.UNKNOWN);
        d.due(1, "say(0, 0)", x.say(0, 0), Due.UNKNOWN);
        d.due(1, "learn(0, 0)", x.learn(0, 0), Due.UNKNOWN);
        d.due(1, "night()", x.night(), Due.STATE);
        d.due(1, "most(0)", x.most(0), Due.STATE);
        d.due(1, "most(2)", x.most(2), Due.OUTSIDE);
        d.due(1, "who(0, 0)", x.who(0, 0), Due.UNKNOWN);
        d.due(1, "trial(0, 0, true)", x.trial(0, 0, true), Due.UNKNOWN);
        d.due(1, "truths(0, 0)", x.truths(0, 0), Due.UNKNOWN);
        d.due(1, "attempt(0)", x.attempt(0), Due.UNKNOWN);
        d.due(1, "weeks(1, 0, 0)", x.weeks(1, 0, 0), Due.STATE);
        d.due(1, "weeks(0, 0, 0)", x.weeks(0, 0, 0), Due.OUTSIDE);
        d.due(1, "image()", x.image(), Due.STATE);
        d.due(1, "restore()", x.restore(), Due.STATE);
        d.due(1, "town()", x.town(), Due.STATE);
        d.due(1, "count(7)", x.count(7), 0);
    }

    private static void letter() {
        KindWords x = new KindWords();
        int[] wrong = {0, 127, 128, 255, 65536 + 48, Integer.MIN_VALUE, -1, Integer.MAX_VALUE};
        for (int code : wrong) {
            d.due(2, "letter(" + code + ")", x.letter(code), Due.OUTSIDE);
        }
        d.due(2, "count(8)", x.count(8), 0);
        d.due(2, "letter(1)", x.letter(1), 1);
        d.due(2, "letter(126)", x.letter(126), 2);
        for (int n = 3; n <= 12; n++) {
            d.due(2, "letter(48)", x.letter(48), n);
        }
        d.due(2, "letter(48) as the 13th", x.letter(48), Due.FULL);
        d.due(2, "letter(0) as the 13th", x.letter(0), Due.OUTSIDE);
        d.due(2, "count(8)", x.count(8), 12);
    }

    private static void blank() {
        KindWords x = new KindWords();
        Due.type(x, "75,36");
        d.due(3, "blank()", x.blank(), 5);
        d.due(3, "blank()", x.blank(), 0);
        d.due(3, "count(8)", x.count(8), 0);
        d.due(3, "letter(55)", x.letter(55), 1);
        Due.type(x, "5,36,52;3xx");
        d.due(3, "blank()", x.blank(), 12);
        d.due(3, "town read behind blank()", Due.read(x, "75,36,52;3"), 12);
    }

    private static void fault() {
        String[] texts = {"", "7", "75,36,52;3", "00,00,00;0", "77,77,77;9", "75,36,52;3x", "75,36,52;33",
            "85,36,52;3", "78,36,52;3", "75;36,52;3", "75,36,52,3", "75,36,52;", "75,36,52;:", "75,36,52;/",
            "/5", "75,x", "x5,36,y2;z"};
        int[] places = {0, 1, 10, 10, 10, 10, 10, 0, 1, 2, 8, 9, 9, 9, 0, 3, 0};
        for (int i = 0; i < texts.length; i++) {
            KindWords x = new KindWords();
            Due.type(x, texts[i]);
            d.due(4, "fault() of " + texts[i], x.fault(), places[i]);
            d.due(4, "fault() again of " + texts[i], x.fault(), places[i]);
            d.due(4, "count(8) of " + texts[i], x.count(8), texts[i].length());
        }
    }

    private static void faultAtEachPlace() {
        String good = "75,36,52;3";
        for (int place = 0; place < 12; place++) {
            for (int code = 1; code <= 126; code++) {
                KindWords x = new KindWords();
                Due.type(x, (good + "xx").substring(0, Math.min(place, 12)));
                x.letter(code);
                boolean fits = switch (place) {
                    case 0, 1, 3, 4, 6, 7 -> "01234567".indexOf(code) >= 0;
                    case 2, 5 -> code == ',';
                    case 8 -> code == ';';
                    case 9 -> "0123456789".indexOf(code) >= 0;
                    default -> false;
                };
                int want = Math.min(10, fits ? place + 1 : place);
                d.due(4, "fault() with " + code + " at " + place, x.fault(), want);
            }
        }
    }

    private static void town() {
        d.due(5, "town()", Due.read(new KindWords(), "75,36,52;3"), 12);
        d.due(5, "town()", Due.read(new KindWords(), "00,00,00;0"), 0);
        d.due(5, "town()", Due.read(new KindWords(), "77,77,77;9"), 18);
        KindWords x = Due.town("10,01,70;9");
        d.due(5, "count(8)", x.count(8), 0);
        d.due(5, "count(0)", x.count(0), 5);
        d.due(5, "count(1)", x.count(1), 9);
        d.due(5, "count(6)", x.count(6), 0);
        d.due(5, "count(9)", x.count(9), 1);
        d.due(5, "victim(0, 0)", x.victim(0, 0), 8);
        d.due(5, "victim(1, 0)", x.victim(1, 0), 1);
        d.due(5, "victim(2, 0)", x.victim(2, 0), 56);
    }

    private static void townRefused() {
        String[] texts = {"", "75,36,52;", "75,36,52;3x", "75,36,52;33", "85,36,52;3", "75,36,52,3", "75,36,52;a"};
        for (String text : texts) {
            KindWords x = Due.town("11,11,11;1");
            x.convict(0, 0, 1, 1);
            x.night();
            d.due(5, "town() of " + text, Due.read(x, text), Due.STATE);
            d.due(5, "count(8) behind it", x.count(8), text.length());
            d.due(5, "count(9) behind it", x.count(9), 1);
            d.due(5, "count(2) behind it", x.count(2), 1);
            d.due(5, "count(6) behind it", x.count(6), 1);
            d.due(5, "victim(0, 0) behind it", x.victim(0, 0), 9);
        }
    }

    private static void townGone() {
        KindWords x = Due.town("77,77,77;9");
        x.convict(0, 0, 2, 63);
        x.convict(2, 1, 2, 63);
        x.say(0, 3);
        x.trial(0, 1, true);
        x.trial(0, 1, false);
        x.image();
        x.night();
        d.due(5, "town() of the same text", Due.read(x, "77,77,77;9"), 18);
        int[] counts = {18, 9, 0, 0, 0, 0, 0, 0, 0, 2};
        for (int what = 0; what < counts.length; what++) {
            d.due(5, "count(" + what + ") in the new town", x.count(what), counts[what]);
        }
        d.due(5, "truths(0, 0) in the new town", x.truths(0, 0), 64);
        d.due(5, "victim(0, 1) in the new town", x.victim(0, 1), 0);
        d.due(5, "about(0, 0) in the new town", x.about(0, 0), Due.UNKNOWN);
        d.due(5, "restore() in the new town", x.restore(), Due.STATE);
        d.due(5, "convict(..) in the new town", x.convict(3, 2, 1, 1), 0);
        d.due(5, "about(0, 6) in the new town", x.about(0, 6), 0);
    }

    private static void victim() {
        KindWords x = Due.town("75,36,52;3");
        x.convict(0, 1, 9, 63);
        x.convict(2, 0, 4, 2);
        x.convict(0, 1, 1, 2);
        d.due(6, "victim(0, 0)", x.victim(0, 0), 61);
        d.due(6, "victim(1, 0)", x.victim(1, 0), 30);
        d.due(6, "victim(2, 0)", x.victim(2, 0), 42);
        d.due(6, "victim(1, 2)", x.victim(1, 2), 5);
        d.due(6, "victim(0, 2)", x.victim(0, 2), 2);
        d.due(6, "victim(2, 2)", x.victim(2, 2), 0);
        d.due(6, "victim(1, 3)", x.victim(1, 3), 10);
        d.due(6, "victim(2, 3)", x.victim(2, 3), 0);
        x.say(0, 4);
        x.say(1, 1);
        x.say(2, 1);
        d.due(6, "victim(1, 1)", x.victim(1, 1), 18);
        d.due(6, "victim(0, 1), forged", x.victim(0, 1), 2);
        d.due(6, "victim(2, 1)", x.victim(2, 1), 0);
        d.due(6, "victim(1, 2), one has paid", x.victim(1, 2), 5);
        d.due(6, "victim(1, 3), one has paid", x.victim(1, 3), 8);
        d.due(6, "victim(0, 3)", x.victim(0, 3), 3);
        d.due(6, "victim(1, 0), some used", x.victim(1, 0), 30);
    }

    private static void victimRefused() {
        KindWords x = Due.town("75,36,52;3");
        d.due(6, "victim(3, 0)", x.victim(3, 0), Due.UNKNOWN);
        d.due(6, "victim(0, 4)", x.victim(0, 4), Due.OUTSIDE);
        for (int far : Due.FAR) {
            d.due(6, "victim(" + far + ", 0)", x.victim(far, 0), Due.UNKNOWN);
            d.due(6, "victim(" + far + ", 4)", x.victim(far, 4), Due.UNKNOWN);
            d.due(6, "victim(0, " + far + ")", x.victim(0, far), Due.OUTSIDE);
        }
    }
}
