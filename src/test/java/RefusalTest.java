import java.util.ArrayList;
import java.util.List;
import java.util.function.ToLongFunction;

/** "Refusals, of several the first as told by each call: .. they change nothing.": each call, each state. */
public final class RefusalTest {
    private static final Due d = new Due();
    private static final int[] BESIDE_VICTIMS = {-1, 3, 32, Integer.MIN_VALUE, Integer.MAX_VALUE};
    private static final int[] BESIDE_CONVICTS = {-1, 4, 32, Integer.MIN_VALUE, Integer.MAX_VALUE};
    private static final int[] BESIDE_SAYINGS = {-1, 6, 32, Integer.MIN_VALUE, Integer.MAX_VALUE};
    private static final int[] NEGATIVE = {-1, Integer.MIN_VALUE};

    private record Refused(int promise, String call, ToLongFunction<KindWords> made, int want) {
    }

    private final List<Refused> calls = new ArrayList<>();

    public static void main(String[] args) {
        RefusalTest full = new RefusalTest();
        full.outside();
        full.unknown();
        full.stateAndFull();
        full.holdInAFullTown();
        RefusalTest none = new RefusalTest();
        none.withoutTown();
        none.holdWithoutTown();
        d.end();
    }

    private void add(int promise, String call, ToLongFunction<KindWords> made, int want) {
        calls.add(new Refused(promise, call, made, want));
    }

    /** The second of two towns, with all that there can be: one has paid, one may say no more, an image is kept. */
    private static KindWords fullTown() {
        KindWords x = Due.town("11,11,11;1");
        Due.read(x, "75,36,52;1");
        x.convict(0, 0, 1, 1);
        x.convict(2, 1, 9, 63);
        x.convict(3, 2, 9, 2);
        x.night();
        x.trial(1, 1, true);
        x.image();
        x.convict(4, 0, 9, 62);
        x.say(0, 0);
        x.say(1, 0);
        x.say(2, 1);
        for (int n = 0; n < 7; n++) {
            x.trial(n % 3, n % 6, n % 2 == 0);
        }
        Due.type(x, "75,36,52;3xy");
        return x;
    }

    private void outside() {
        for (int code : new int[] {0, 127, -1, Integer.MIN_VALUE, Integer.MAX_VALUE}) {
            add(2, "letter(" + code + ")", x -> x.letter(code), Due.OUTSIDE);
        }
        for (int wrong : new int[] {-1, 10, 64, Integer.MIN_VALUE, Integer.MAX_VALUE}) {
            add(6, "victim(0, " + wrong + ")", x -> x.victim(0, wrong), Due.OUTSIDE);
            add(7, "kind " + wrong, x -> x.convict(wrong, 3, 1, 0), Due.OUTSIDE);
            add(7, "fine " + wrong, x -> x.convict(0, 3, wrong, 0), Due.OUTSIDE);
            add(8, "about(0, " + wrong + ")", x -> x.about(0, wrong), Due.OUTSIDE);
            add(9, "as(0, " + wrong + ")", x -> x.as(0, wrong), Due.OUTSIDE);
            add(13, "most(" + wrong + ")", x -> x.most(wrong), Due.OUTSIDE);
            add(17, "truths(0, " + wrong + ")", x -> x.truths(0, wrong), Due.OUTSIDE);
            add(19, "weeks(1, 0, " + wrong + ")", x -> x.weeks(1, 0, wrong), Due.OUTSIDE);
            add(22, "count(" + wrong + ")", x -> x.count(wrong), Due.OUTSIDE);
        }
        for (int knows : new int[] {-1, 64, Integer.MIN_VALUE, Integer.MAX_VALUE}) {
            add(7, "knows " + knows, x -> x.convict(0, 3, 1, knows), Due.OUTSIDE);
        }
        for (int days : new int[] {0, 41, -1, Integer.MIN_VALUE, Integer.MAX_VALUE}) {
            add(19, "weeks(" + days + ", 0, 0)", x -> x.weeks(days, 0, 0), Due.OUTSIDE);
        }
        for (int seed : NEGATIVE) {
            add(19, "weeks(1, " + seed + ", 0)", x -> x.weeks(1, seed, 0), Due.OUTSIDE);
        }
    }

    private void unknown() {
        for (int v : BESIDE_VICTIMS) {
            add(6, "victim(" + v + ", 4)", x -> x.victim(v, 4), Due.UNKNOWN);
            add(7, "victim " + v, x -> x.convict(0, v, 1, 0), Due.UNKNOWN);
            add(14, "who(" + v + ", 0)", x -> x.who(v, 0), Due.UNKNOWN);
            add(15, "trial(" + v + ", 0, true)", x -> x.trial(v, 0, true), Due.UNKNOWN);
            add(17, "truths(" + v + ", 3)", x -> x.truths(v, 3), Due.UNKNOWN);
            add(18, "attempt(" + v + ")", x -> x.attempt(v), Due.UNKNOWN);
        }
        for (int c : BESIDE_CONVICTS) {
            add(8, "about(" + c + ", 9)", x -> x.about(c, 9), Due.UNKNOWN);
            add(9, "as(" + c + ", 5)", x -> x.as(c, 5), Due.UNKNOWN);
            add(10, "say(" + c + ", 0)", x -> x.say(c, 0), Due.UNKNOWN);
            add(11, "learn(" + c + ", 0)", x -> x.learn(c, 0), Due.UNKNOWN);
        }
        for (int saying : BESIDE_SAYINGS) {
            for (int c = 0; c < 4; c++) {
                int who = c;
                add(10, "say(" + c + ", " + saying + ")", x -> x.say(who, saying), Due.UNKNOWN);
                add(11, "learn(" + c + ", " + saying + ")", x -> x.learn(who, saying), Due.UNKNOWN);
            }
            add(14, "who(0, " + saying + ")", x -> x.who(0, saying), Due.UNKNOWN);
            add(15, "trial(0, " + saying + ", false)", x -> x.trial(0, saying, false), Due.UNKNOWN);
        }
    }

    private void stateAndFull() {
        add(2, "letter(48), full", x -> x.letter(48), Due.FULL);
        add(5, "town(), none", x -> x.town(), Due.STATE);
        add(7, "convict(0, 0, 1, 0), full", x -> x.convict(0, 0, 1, 0), Due.FULL);
        add(10, "say(0, 0), paid", x -> x.say(0, 0), Due.STATE);
        add(10, "say(1, 1), no more today", x -> x.say(1, 1), Due.STATE);
        add(10, "say(3, 0), not known", x -> x.say(3, 0), Due.STATE);
        add(15, "trial(0, 0, true), full", x -> x.trial(0, 0, true), Due.FULL);
    }

    // The digest tells all but the image; that it is still the same is seen by restore().
    private void holdInAFullTown() {
        KindWords other = fullTown();
        long full = other.digest();
        other.restore();
        long kept = other.digest();
        d.that("the image is as the town", full != kept);
        for (Refused r : calls) {
            KindWords x = fullTown();
            d.refused(r.promise, r.call, x.digest(), r.made.applyAsLong(x), r.want, x.digest());
            d.due(r.promise, "digest() behind " + r.call, x.digest(), full);
            d.due(r.promise, "restore() behind " + r.call, x.restore(), 1);
            d.due(r.promise, "digest() behind restore() behind " + r.call, x.digest(), kept);
        }
    }

    private void withoutTown() {
        add(5, "town(), an empty page", x -> x.town(), Due.STATE);
        for (int number = -1; number <= 4; number++) {
            int n = number;
            add(6, "victim(" + n + ", 0)", x -> x.victim(n, 0), Due.UNKNOWN);
            add(7, "convict(0, " + n + ", 1, 0)", x -> x.convict(0, n, 1, 0), Due.UNKNOWN);
            add(8, "about(" + n + ", 0)", x -> x.about(n, 0), Due.UNKNOWN);
            add(9, "as(" + n + ", 0)", x -> x.as(n, 0), Due.UNKNOWN);
            add(10, "say(" + n + ", 0)", x -> x.say(n, 0), Due.UNKNOWN);
            add(11, "learn(" + n + ", 0)", x -> x.learn(n, 0), Due.UNKNOWN);
            add(14, "who(" + n + ", 0)", x -> x.who(n, 0), Due.UNKNOWN);
            add(15, "trial(" + n + ", 0, true)", x -> x.trial(n, 0, true), Due.UNKNOWN);
            add(17, "truths(" + n + ", 0)", x -> x.truths(n, 0), Due.UNKNOWN);
            add(18, "attempt(" + n + ")", x -> x.attempt(n), Due.UNKNOWN);
        }
        add(12, "night()", x -> x.night(), Due.STATE);
        add(13, "most(0)", x -> x.most(0), Due.STATE);
        add(13, "most(1)", x -> x.most(1), Due.STATE);
        add(19, "weeks(1, 0, 0)", x -> x.weeks(1, 0, 0), Due.STATE);
        add(20, "image()", x -> x.image(), Due.STATE);
        add(21, "restore()", x -> x.restore(), Due.STATE);
    }

    // Behind it all goes as in a new object.
    private void holdWithoutTown() {
        long fresh = new KindWords().digest();
        long first = Due.town("75,36,52;3").digest();
        for (Refused r : calls) {
            KindWords x = new KindWords();
            d.refused(r.promise, r.call + ", no town", x.digest(), r.made.applyAsLong(x), r.want, x.digest());
            d.due(r.promise, "digest() behind " + r.call, x.digest(), fresh);
            d.due(r.promise, "town() behind " + r.call, Due.read(x, "75,36,52;3"), 12);
            d.due(r.promise, "digest() of the town behind " + r.call, x.digest(), first);
            d.due(r.promise, "restore() behind " + r.call, x.restore(), Due.STATE);
        }
    }
}
