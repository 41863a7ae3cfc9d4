/** Boundary cases of promises 20 and 21; above each test stands the sentence that it holds. */
public final class EdgeImageTest {
    private static final Due d = new Due();

    public static void main(String[] args) {
        imageWithoutTown();
        imageOfTheFirstDayAndLater();
        imageIsTheLatest();
        imageChangesNothing();
        restoreOfNone();
        restoreInAnotherTown();
        restoreBehindARefusedTown();
        restoreAgain();
        sheetsAreBack();
        convictsAreGone();
        whoComesInTheirPlaceIsNew();
        fullIsFull();
        finesAreBack();
        misersOddOneIsBack();
        knowledgeIsBack();
        usedOnesAreNew();
        theyMaySayAsManyYet();
        theDayIsBack();
        trialsAreBack();
        pageAndTownsReadStay();
        d.end();
    }

    // "STATE: no TOWN": then none is kept
    private static void imageWithoutTown() {
        KindWords x = new KindWords();
        d.refused(20, "image()", x.digest(), x.image(), Due.STATE, x.digest());
        d.due(20, "restore()", x.restore(), Due.STATE);
        Due.read(x, "77,77,77;9");
        d.due(20, "restore(), a town since", x.restore(), Due.STATE);
    }

    // "An IMAGE is kept ..: the DAY."
    private static void imageOfTheFirstDayAndLater() {
        KindWords x = Due.town("77,77,77;9");
        for (int day = 0; day < 4; day++) {
            d.due(20, "image()", x.image(), day);
            d.due(20, "image(), again", x.image(), day);
            x.night();
        }
    }

    // "(one; the latest)"
    private static void imageIsTheLatest() {
        KindWords x = Due.town("77,77,77;9");
        x.image();
        x.convict(0, 0, 2, 3);
        x.night();
        x.image();
        x.say(0, 0);
        x.night();
        d.due(21, "restore()", x.restore(), 1);
        d.due(21, "restore(), there is one alone", x.restore(), 1);
        d.due(21, "count(2)", x.count(2), 1);
        d.due(21, "count(5)", x.count(5), 0);
    }

    // An IMAGE of nothing and of all: it only keeps, and what it keeps is the same.
    private static void imageChangesNothing() {
        KindWords x = Due.town("77,77,77;9");
        long empty = x.digest();
        x.image();
        d.due(20, "digest() behind image(), nothing", x.digest(), empty);
        for (int c = 0; c < 4; c++) {
            x.convict(c, c % 3, 9, 63);
        }
        for (int n = 0; n < 8; n++) {
            x.trial(n % 3, n % 6, true);
        }
        x.restore();
        d.due(21, "digest() behind restore(), nothing", x.digest(), empty);
    }

    // "STATE: none was kept"
    private static void restoreOfNone() {
        KindWords x = new KindWords();
        d.refused(21, "restore(), no town", x.digest(), x.restore(), Due.STATE, x.digest());
        Due.read(x, "77,77,77;9");
        x.convict(0, 0, 9, 63);
        x.night();
        d.refused(21, "restore(), none kept", x.digest(), x.restore(), Due.STATE, x.digest());
    }

    // "STATE: .. or there is another TOWN since": of the same text, too
    private static void restoreInAnotherTown() {
        KindWords x = Due.town("77,77,77;9");
        x.night();
        x.image();
        Due.read(x, "77,77,77;9");
        d.refused(21, "restore(), another town", x.digest(), x.restore(), Due.STATE, x.digest());
        x.image();
        x.night();
        d.due(21, "restore(), kept in this one", x.restore(), 0);
    }

    // "STATE: .. another TOWN since": one that is refused is none
    private static void restoreBehindARefusedTown() {
        KindWords x = Due.town("77,77,77;9");
        x.night();
        x.image();
        x.night();
        d.due(21, "town()", Due.read(x, "77,77,77;x"), Due.STATE);
        d.due(21, "restore()", x.restore(), 1);
    }

    // "It goes on from the IMAGE": what comes behind it is not of the IMAGE
    private static void restoreAgain() {
        KindWords x = Due.town("77,77,77;9");
        x.convict(1, 0, 2, 3);
        x.image();
        long then = x.digest();
        for (int n = 0; n < 3; n++) {
            x.say(0, 0);
            x.learn(0, 5);
            x.trial(0, n, false);
            x.convict(0, 1, 1, 1);
            x.night();
            d.due(21, "restore()", x.restore(), 0);
            d.due(21, "digest()", x.digest(), then);
        }
    }

    // "keeps SHEETS": the last and the first of them
    private static void sheetsAreBack() {
        KindWords x = Due.town("00,00,00;1");
        x.convict(2, 0, 9, 63);
        x.image();
        x.say(0, 0);
        d.due(21, "count(1), none left", x.count(1), 0);
        x.restore();
        d.due(21, "count(1), back", x.count(1), 1);
        x.say(0, 0);
        x.image();
        x.night();
        x.restore();
        d.due(21, "count(1), none kept", x.count(1), 0);
    }

    // "how many CONVICTS there are (those that come since are gone by restore())"
    private static void convictsAreGone() {
        for (int kept = 0; kept <= 4; kept++) {
            KindWords x = Due.town("77,77,77;9");
            for (int c = 0; c < 4; c++) {
                if (c == kept) {
                    x.image();
                }
                x.convict(4 - c, 1, 9 - c, 63);
            }
            if (kept == 4) {
                x.image();
            }
            x.restore();
            d.due(21, "count(2)", x.count(2), kept);
            d.due(21, "victim(1, 2)", x.victim(1, 2), (1 << kept) - 1);
            d.due(21, "about(last, 0)", x.about(kept - 1, 0), kept == 0 ? Due.UNKNOWN : 5 - kept);
            d.due(21, "about(next, 0)", x.about(kept, 0), Due.UNKNOWN);
            d.due(21, "who(1, 5)", x.who(1, 5) >= kept ? 1 : 0, 0);
        }
    }

    // "those that come since are gone": one who comes then has said nothing yet
    private static void whoComesInTheirPlaceIsNew() {
        KindWords x = Due.town("77,77,77;9");
        x.image();
        x.convict(4, 0, 9, 63);
        x.say(0, 0);
        x.image();
        x.restore();
        Due.read(x, "77,77,77;9");
        x.image();
        x.convict(3, 1, 1, 63);
        x.say(0, 0);
        x.restore();
        d.due(21, "convict(3, 2, 2, 7)", x.convict(3, 2, 2, 7), 0);
        int[] newOne = {3, 2, 2, 7, 7, 1, 0, Due.NONE, 1};
        for (int what = 0; what < newOne.length; what++) {
            d.due(21, "about(0, " + what + "), a new one", x.about(0, what), newOne[what]);
        }
    }

    // "CONVICTS (4 at most": by restore() there is room again, or it is full as it was
    private static void fullIsFull() {
        KindWords x = Due.town("77,77,77;9");
        for (int c = 0; c < 3; c++) {
            x.convict(0, 0, 1, 63);
        }
        x.image();
        x.convict(0, 0, 1, 63);
        d.due(21, "a fifth", x.convict(0, 0, 1, 63), Due.FULL);
        x.restore();
        d.due(21, "a fourth, restored", x.convict(4, 2, 5, 1), 3);
        d.due(21, "a fifth, restored", x.convict(0, 0, 1, 63), Due.FULL);
        int[] fourth = {4, 2, 5, 1, 1, 3, 0, Due.NONE, 4};
        for (int what = 0; what < fourth.length; what++) {
            d.due(21, "about(3, " + what + ")", x.about(3, what), fourth[what]);
        }
        x.image();
        x.restore();
        d.due(21, "a fifth, kept full", x.convict(0, 0, 1, 63), Due.FULL);
    }

    // "FINES": who has PAID since has not
    private static void finesAreBack() {
        KindWords x = Due.town("77,77,77;9");
        x.convict(0, 0, 1, 1);
        x.image();
        x.say(0, 0);
        d.due(21, "count(3), paid", x.count(3), 1);
        x.restore();
        d.due(21, "count(3), not paid", x.count(3), 0);
        d.due(21, "about(0, 2)", x.about(0, 2), 1);
        d.due(21, "say(0, 0)", x.say(0, 0), 1);
        x.image();
        x.night();
        x.restore();
        d.due(21, "about(0, 2), paid when kept", x.about(0, 2), 0);
        d.due(21, "say(0, 0), paid when kept", x.say(0, 0), Due.STATE);
    }

    // A MISER goes on from the IMAGE: whether one COUNTED that did not make his FINE less
    private static void misersOddOneIsBack() {
        KindWords x = Due.town("77,77,77;9");
        x.convict(3, 0, 1, 63);
        x.image();
        x.say(0, 0);
        x.restore();
        d.due(21, "most(0), two are needed", x.most(0), 2);
        x.say(0, 0);
        d.due(21, "about(0, 2), the first", x.about(0, 2), 1);
        x.image();
        x.night();
        x.say(0, 1);
        d.due(21, "about(0, 2), the second", x.about(0, 2), 0);
        x.restore();
        d.due(21, "most(0), one is needed", x.most(0), 1);
        x.night();
        x.say(0, 1);
        d.due(21, "about(0, 2), the second again", x.about(0, 2), 0);
    }

    // "what they KNOW"
    private static void knowledgeIsBack() {
        KindWords x = Due.town("77,77,77;9");
        x.convict(0, 0, 9, 0);
        x.image();
        for (int saying = 0; saying < 6; saying++) {
            x.learn(0, saying);
        }
        x.restore();
        d.due(21, "about(0, 3)", x.about(0, 3), 0);
        d.due(21, "learn(0, 5)", x.learn(0, 5), 1);
    }

    // "what is USED"
    private static void usedOnesAreNew() {
        KindWords x = Due.town("77,77,77;9");
        for (int v = 0; v < 3; v++) {
            x.convict(4, v, 9, 63);
        }
        x.image();
        for (int saying = 0; saying < 6; saying++) {
            for (int v = 0; v < 3; v++) {
                x.say(v, saying);
            }
            x.night();
        }
        d.due(21, "count(5), all", x.count(5), 18);
        x.restore();
        for (int v = 0; v < 3; v++) {
            d.due(21, "victim(" + v + ", 1)", x.victim(v, 1), 0);
            d.due(21, "say(" + v + ", 5)", x.say(v, 5), 1);
        }
    }

    // "how many they may say yet": none when it was kept, all when it was kept
    private static void theyMaySayAsManyYet() {
        KindWords x = Due.town("00,77,77;0");
        x.convict(4, 0, 9, 1);
        for (int more = 3; more >= 0; more--) {
            x.image();
            x.say(0, 0);
            x.restore();
            d.due(21, "about(0, 5), said since", x.about(0, 5), more);
            x.night();
            x.restore();
            d.due(21, "about(0, 5), a night since", x.about(0, 5), more);
            d.due(21, "say(0, 0)", x.say(0, 0), more > 0 ? 0 : Due.STATE);
        }
    }

    // "the DAY"
    private static void theDayIsBack() {
        KindWords x = Due.town("00,00,00;0");
        x.image();
        for (int day = 1; day <= 5; day++) {
            x.night();
        }
        d.due(21, "restore()", x.restore(), 0);
        d.due(21, "count(6)", x.count(6), 0);
        d.due(21, "night()", x.night(), 1);
    }

    // "TRIALS": none when it was kept, all eight when it was kept
    private static void trialsAreBack() {
        KindWords x = Due.town("00,00,00;0");
        x.image();
        for (int n = 0; n < 8; n++) {
            x.trial(2, n % 6, n < 4);
        }
        long full = x.digest();
        x.restore();
        d.due(21, "count(7), none", x.count(7), 0);
        d.due(21, "truths(2, 0), none", x.truths(2, 0), 64);
        for (int n = 0; n < 8; n++) {
            x.trial(2, n % 6, n < 4);
        }
        x.image();
        x.forget();
        d.due(21, "truths(2, 0), forgotten", x.truths(2, 0), 64);
        x.restore();
        d.due(21, "count(7), all", x.count(7), 8);
        d.due(21, "truths(2, 0), no set", x.truths(2, 0), 0);
        d.due(21, "trial(2, 0, true)", x.trial(2, 0, true), Due.FULL);
        d.due(21, "digest()", x.digest(), full);
    }

    // What an IMAGE does not keep: letters of THE PAGE, how often a TOWN was read
    private static void pageAndTownsReadStay() {
        KindWords x = Due.town("77,77,77;9");
        Due.read(x, "77,77,77;9");
        x.image();
        Due.type(x, "75,36,52;3ab");
        x.restore();
        d.due(21, "count(8), full", x.count(8), 12);
        d.due(21, "count(9)", x.count(9), 2);
        d.due(21, "fault()", x.fault(), 10);
        x.image();
        x.blank();
        x.restore();
        d.due(21, "count(8), empty", x.count(8), 0);
    }
}
