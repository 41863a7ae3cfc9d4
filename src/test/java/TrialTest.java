/** Promises 15 to 18: trial, forget, truths, attempt. */
public final class TrialTest {
    private static final Due d = new Due();

    public static void main(String[] args) {
        trial();
        forget();
        truths();
        attempt();
        refused();
        d.end();
    }

    private static void trial() {
        KindWords x = Due.town("00,00,00;0");
        for (int n = 1; n <= 8; n++) {
            d.due(15, "trial(2, 5, true), the same too", x.trial(2, 5, true), n);
        }
        d.due(15, "a ninth", x.trial(0, 0, false), Due.FULL);
        d.due(15, "a ninth of victim 3", x.trial(3, 0, false), Due.UNKNOWN);
        d.due(15, "truths(0, 0), the ninth is not there", x.truths(0, 0), 64);
        d.due(15, "truths(2, 0)", x.truths(2, 0), 32);
        d.due(15, "count(7)", x.count(7), 8);
        d.due(15, "victim(2, 1), a trial is not said", x.victim(2, 1), 0);
    }

    private static void forget() {
        KindWords x = Due.town("77,77,77;0");
        x.trial(0, 0, true);
        x.trial(0, 0, false);
        x.trial(1, 3, true);
        d.due(16, "forget()", x.forget(), 3);
        d.due(16, "forget()", x.forget(), 0);
        d.due(16, "count(7)", x.count(7), 0);
        d.due(16, "truths(0, 0)", x.truths(0, 0), 64);
        d.due(16, "truths(1, 2)", x.truths(1, 2), 0);
        d.due(16, "trial(0, 0, true)", x.trial(0, 0, true), 1);
    }

    private static void truths() {
        KindWords x = Due.town("00,77,52;9");
        int[] first = {64, 0, 0};
        dueTruths(x, 0, first);
        x.trial(0, 2, true);
        dueTruths(x, 0, new int[] {32, 4, 4});
        x.trial(0, 1, false);
        dueTruths(x, 0, new int[] {16, 4, 4});
        x.trial(0, 5, true);
        dueTruths(x, 0, new int[] {8, 36, 36});
        x.trial(0, 5, true);
        dueTruths(x, 0, new int[] {8, 36, 36});
        dueTruths(x, 1, first);
        x.trial(0, 2, false);
        dueTruths(x, 0, new int[] {0, Due.NONE, Due.NONE});
        dueTruths(x, 2, first);
    }

    private static void dueTruths(KindWords x, int victim, int[] want) {
        for (int what = 0; what < 3; what++) {
            d.due(17, "truths(" + victim + ", " + what + ")", x.truths(victim, what), want[what]);
        }
    }

    private static void attempt() {
        KindWords x = Due.town("00,77,52;9");
        for (int saying = 0; saying < 6; saying++) {
            d.due(18, "attempt(1)", x.attempt(1), saying);
            x.trial(1, saying, saying % 2 == 0);
        }
        d.due(18, "attempt(1), one set is left", x.attempt(1), 0);
        dueTruths(x, 1, new int[] {1, 21, 21});
        d.due(18, "attempt(0)", x.attempt(0), 0);
        x.trial(0, 1, true);
        d.due(18, "attempt(0), another tried", x.attempt(0), 0);
        x.trial(1, 1, true);
        d.due(18, "attempt(1), no set is left", x.attempt(1), Due.NONE);
        d.due(18, "attempt(2)", x.attempt(2), 0);
    }

    private static void refused() {
        KindWords x = Due.town("00,77,52;9");
        d.due(15, "trial(3, 0, true)", x.trial(3, 0, true), Due.UNKNOWN);
        d.due(15, "trial(0, 6, true)", x.trial(0, 6, true), Due.UNKNOWN);
        d.due(17, "truths(3, 0)", x.truths(3, 0), Due.UNKNOWN);
        d.due(17, "truths(0, 3)", x.truths(0, 3), Due.OUTSIDE);
        d.due(18, "attempt(3)", x.attempt(3), Due.UNKNOWN);
        for (int far : Due.FAR) {
            d.due(15, "trial(" + far + ", 0, true)", x.trial(far, 0, true), Due.UNKNOWN);
            d.due(15, "trial(0, " + far + ", true)", x.trial(0, far, true), Due.UNKNOWN);
            d.due(17, "truths(" + far + ", 3)", x.truths(far, 3), Due.UNKNOWN);
            d.due(17, "truths(0, " + far + ")", x.truths(0, far), Due.OUTSIDE);
            d.due(18, "attempt(" + far + ")", x.attempt(far), Due.UNKNOWN);
        }
        d.due(15, "count(7)", x.count(7), 0);
    }
}
