/** Boundary cases of promises 15 to 18; above each test stands the sentence that it holds. */
public final class EdgeTrialTest {
    private static final Due d = new Due();

    public static void main(String[] args) {
        eightAndNine();
        eightOfAllTogether();
        fullNoMore();
        trialNumbers();
        trialRefusalOrder();
        trialWithoutTown();
        trialIsOnlyTold();
        forgetNoneAndAll();
        truthsOfNoTrials();
        truthsOfOneSet();
        truthsOfNoSet();
        truthsOfTheSameAgain();
        truthsRefused();
        attemptFirstAndLast();
        attemptOfLikeOnes();
        attemptOfOneSet();
        attemptOfNoSet();
        attemptRefused();
        d.end();
    }

    private static void dueTruths(KindWords x, int victim, int sets, int least, int inAll) {
        d.due(17, "truths(" + victim + ", 0)", x.truths(victim, 0), sets);
        d.due(17, "truths(" + victim + ", 1)", x.truths(victim, 1), least);
        d.due(17, "truths(" + victim + ", 2)", x.truths(victim, 2), inAll);
    }

    // "TRIALS (8 at most)"; "FULL"
    private static void eightAndNine() {
        KindWords x = Due.town("00,00,00;0");
        for (int n = 1; n <= 8; n++) {
            d.due(15, "trial(0, 0, true), number " + n, x.trial(0, 0, true), n);
        }
        d.refused(15, "a ninth, the same", x.digest(), x.trial(0, 0, true), Due.FULL, x.digest());
        d.refused(15, "a ninth, against it", x.digest(), x.trial(0, 0, false), Due.FULL, x.digest());
        d.refused(15, "a ninth, of another", x.digest(), x.trial(2, 5, true), Due.FULL, x.digest());
        d.due(15, "count(7)", x.count(7), 8);
        dueTruths(x, 0, 32, 1, 1);
    }

    // "TRIALS (8 at most)": of all VICTIMS together
    private static void eightOfAllTogether() {
        KindWords x = Due.town("00,00,00;0");
        for (int n = 0; n < 8; n++) {
            d.due(15, "trial(..), number " + (n + 1), x.trial(n % 3, n % 6, n % 2 == 0), n + 1);
        }
        for (int v = 0; v < 3; v++) {
            d.due(15, "a ninth of " + v, x.trial(v, 0, true), Due.FULL);
        }
    }

    // "FULL": behind forget(), another TOWN, restore() there is room again
    private static void fullNoMore() {
        KindWords x = Due.town("00,00,00;0");
        for (int n = 1; n <= 7; n++) {
            x.trial(0, 0, true);
        }
        x.image();
        d.due(15, "an eighth", x.trial(0, 0, true), 8);
        d.due(15, "a ninth", x.trial(0, 0, true), Due.FULL);
        x.restore();
        d.due(15, "an eighth, restored", x.trial(1, 1, true), 8);
        d.due(15, "a ninth, restored", x.trial(1, 1, true), Due.FULL);
        x.forget();
        d.due(15, "a first, forgotten", x.trial(1, 1, true), 1);
        Due.read(x, "00,00,00;0");
        d.due(15, "a first, another town", x.trial(1, 1, true), 1);
    }

    // "UNKNOWN: victim, saying"
    private static void trialNumbers() {
        KindWords x = Due.town("00,00,00;0");
        d.refused(15, "trial(-1, 0, true)", x.digest(), x.trial(-1, 0, true), Due.UNKNOWN, x.digest());
        d.refused(15, "trial(3, 0, true)", x.digest(), x.trial(3, 0, true), Due.UNKNOWN, x.digest());
        d.refused(15, "trial(0, -1, true)", x.digest(), x.trial(0, -1, true), Due.UNKNOWN, x.digest());
        d.refused(15, "trial(0, 6, false)", x.digest(), x.trial(0, 6, false), Due.UNKNOWN, x.digest());
        d.refused(15, "trial(0, 32, false)", x.digest(), x.trial(0, 32, false), Due.UNKNOWN, x.digest());
        d.due(15, "trial(0, 0, true)", x.trial(0, 0, true), 1);
        d.due(15, "trial(2, 5, false)", x.trial(2, 5, false), 2);
        dueTruths(x, 0, 32, 1, 1);
        dueTruths(x, 2, 32, 0, 0);
    }

    // "of several the first as told by each call": UNKNOWN, FULL
    private static void trialRefusalOrder() {
        KindWords x = Due.town("00,00,00;0");
        for (int n = 0; n < 8; n++) {
            x.trial(0, 0, true);
        }
        d.due(15, "trial(3, 0, true), full", x.trial(3, 0, true), Due.UNKNOWN);
        d.due(15, "trial(-1, 0, true), full", x.trial(-1, 0, true), Due.UNKNOWN);
        d.due(15, "trial(0, 6, true), full", x.trial(0, 6, true), Due.UNKNOWN);
        d.due(15, "trial(0, -1, true), full", x.trial(0, -1, true), Due.UNKNOWN);
        d.due(15, "trial(0, 0, true), full", x.trial(0, 0, true), Due.FULL);
    }

    // "UNKNOWN (a number names nothing)": there are no VICTIMS without a TOWN
    private static void trialWithoutTown() {
        KindWords x = new KindWords();
        for (int v = 0; v < 3; v++) {
            d.refused(15, "trial(" + v + ", 0, true)", x.digest(), x.trial(v, 0, true), Due.UNKNOWN, x.digest());
        }
        d.due(15, "count(7)", x.count(7), 0);
    }

    // "that a SAYING of a VICTIM, new, ..  would COUNT, or would not": it is not said, and may be USED or not TRUE
    private static void trialIsOnlyTold() {
        KindWords x = Due.town("01,00,00;9");
        x.convict(1, 0, 9, 63);
        x.say(0, 0);
        d.due(15, "trial(0, 0, true), used", x.trial(0, 0, true), 1);
        d.due(15, "trial(0, 1, true), not true", x.trial(0, 1, true), 2);
        d.due(15, "victim(0, 0)", x.victim(0, 0), 1);
        d.due(15, "victim(0, 1)", x.victim(0, 1), 1);
        d.due(15, "about(0, 5)", x.about(0, 5), 1);
        d.due(15, "count(1)", x.count(1), 9);
        dueTruths(x, 0, 16, 3, 3);
    }

    // "All TRIALS are gone: how many there were."
    private static void forgetNoneAndAll() {
        KindWords x = new KindWords();
        d.due(16, "forget(), no town", x.forget(), 0);
        Due.read(x, "00,00,00;0");
        long none = x.digest();
        d.due(16, "forget(), none", x.forget(), 0);
        d.due(16, "digest(), none", x.digest(), none);
        for (int n = 0; n < 8; n++) {
            x.trial(n % 3, 0, n < 4);
        }
        for (int v = 0; v < 3; v++) {
            d.due(16, "truths(" + v + ", 0)", x.truths(v, 0), 0);
        }
        d.due(16, "forget(), all", x.forget(), 8);
        d.due(16, "digest(), all are gone", x.digest(), none);
        d.due(16, "forget(), none again", x.forget(), 0);
    }

    // "how many of the 64 sets": all, the least of which is empty
    private static void truthsOfNoTrials() {
        KindWords x = Due.town("77,00,52;9");
        for (int v = 0; v < 3; v++) {
            dueTruths(x, v, 64, 0, 0);
        }
        x.trial(1, 3, true);
        dueTruths(x, 0, 64, 0, 0);
        dueTruths(x, 1, 32, 8, 8);
        dueTruths(x, 2, 64, 0, 0);
    }

    // "how many .. sets .. can be TRUE of it by all these": one, whichever it is
    private static void truthsOfOneSet() {
        for (int set = 0; set < 64; set++) {
            KindWords x = Due.town("00,00,00;0");
            for (int saying = 0; saying < 6; saying++) {
                x.trial(2, saying, (set >> saying & 1) == 1);
                d.due(17, "truths(2, 0), " + (saying + 1) + " tried", x.truths(2, 0), 32 >> saying);
            }
            dueTruths(x, 2, 1, set, set);
        }
    }

    // "(NONE: there are none)"
    private static void truthsOfNoSet() {
        for (int saying = 0; saying < 6; saying++) {
            KindWords x = Due.town("77,77,77;0");
            x.trial(1, saying, true);
            dueTruths(x, 1, 32, 1 << saying, 1 << saying);
            x.trial(1, saying, false);
            dueTruths(x, 1, 0, Due.NONE, Due.NONE);
            dueTruths(x, 0, 64, 0, 0);
            x.trial(1, (saying + 1) % 6, true);
            dueTruths(x, 1, 0, Due.NONE, Due.NONE);
            x.forget();
            dueTruths(x, 1, 64, 0, 0);
        }
    }

    // "by all these": the same TRIAL twice leaves the same sets
    private static void truthsOfTheSameAgain() {
        KindWords x = Due.town("77,77,77;0");
        for (int n = 0; n < 4; n++) {
            x.trial(0, 5, true);
            x.trial(1, 5, false);
            dueTruths(x, 0, 32, 32, 32);
            dueTruths(x, 1, 32, 0, 0);
        }
    }

    // "UNKNOWN; OUTSIDE"
    private static void truthsRefused() {
        KindWords x = Due.town("77,77,77;0");
        x.trial(0, 0, true);
        d.refused(17, "truths(-1, 0)", x.digest(), x.truths(-1, 0), Due.UNKNOWN, x.digest());
        d.refused(17, "truths(3, 0)", x.digest(), x.truths(3, 0), Due.UNKNOWN, x.digest());
        d.refused(17, "truths(0, -1)", x.digest(), x.truths(0, -1), Due.OUTSIDE, x.digest());
        d.refused(17, "truths(0, 3)", x.digest(), x.truths(0, 3), Due.OUTSIDE, x.digest());
        for (int v : new int[] {-1, 3}) {
            d.due(17, "truths(" + v + ", -1)", x.truths(v, -1), Due.UNKNOWN);
            d.due(17, "truths(" + v + ", 3)", x.truths(v, 3), Due.UNKNOWN);
        }
        dueTruths(x, 0, 32, 1, 1);
        dueTruths(x, 2, 64, 0, 0);
        x.trial(0, 0, false);
        d.due(17, "truths(0, 3), no sets", x.truths(0, 3), Due.OUTSIDE);
        KindWords y = new KindWords();
        d.due(17, "truths(0, 0), no town", y.truths(0, 0), Due.UNKNOWN);
        d.due(17, "truths(0, 3), no town", y.truths(0, 3), Due.UNKNOWN);
    }

    // "the SAYING by which fewest of these would be left at worst": one not tried, the last of them too
    private static void attemptFirstAndLast() {
        for (int open = 0; open < 6; open++) {
            KindWords x = Due.town("00,00,00;0");
            d.due(18, "attempt(2), none tried", x.attempt(2), 0);
            for (int saying = 0; saying < 6; saying++) {
                if (saying != open) {
                    x.trial(2, saying, saying % 2 == 0);
                }
            }
            d.due(18, "attempt(2), all but " + open + " tried", x.attempt(2), open);
        }
    }

    // "of like ones the least"
    private static void attemptOfLikeOnes() {
        for (int tried = 0; tried < 63; tried++) {
            KindWords x = Due.town("00,00,00;0");
            int least = 5;
            for (int saying = 5; saying >= 0; saying--) {
                if ((tried >> saying & 1) == 1) {
                    x.trial(0, saying, true);
                } else {
                    least = saying;
                }
            }
            d.due(18, "attempt(0), tried " + tried, x.attempt(0), least);
            d.due(18, "attempt(1), tried of another", x.attempt(1), 0);
        }
    }

    // "of like ones the least": by each of all six, one set would be left
    private static void attemptOfOneSet() {
        for (int set = 0; set < 64; set += 21) {
            KindWords x = Due.town("00,00,00;0");
            for (int saying = 0; saying < 6; saying++) {
                x.trial(1, saying, (set >> saying & 1) == 1);
            }
            d.due(18, "attempt(1), one set is left", x.attempt(1), 0);
        }
    }

    // "none, if there is no such set"
    private static void attemptOfNoSet() {
        KindWords x = Due.town("77,77,77;0");
        x.trial(1, 5, false);
        d.due(18, "attempt(1), some sets", x.attempt(1), 0);
        x.trial(1, 5, true);
        d.due(18, "attempt(1), no set", x.attempt(1), Due.NONE);
        d.due(18, "attempt(0), all sets", x.attempt(0), 0);
        d.due(18, "attempt(2), all sets", x.attempt(2), 0);
        x.forget();
        d.due(18, "attempt(1), forgotten", x.attempt(1), 0);
    }

    // "TRY; NONE. UNKNOWN."
    private static void attemptRefused() {
        KindWords x = Due.town("77,77,77;0");
        d.refused(18, "attempt(-1)", x.digest(), x.attempt(-1), Due.UNKNOWN, x.digest());
        d.refused(18, "attempt(3)", x.digest(), x.attempt(3), Due.UNKNOWN, x.digest());
        d.due(18, "attempt(0)", x.attempt(0), 0);
        d.due(18, "attempt(2)", x.attempt(2), 0);
        KindWords y = new KindWords();
        for (int v = -1; v <= 3; v++) {
            d.due(18, "attempt(" + v + "), no town", y.attempt(v), Due.UNKNOWN);
        }
    }
}
