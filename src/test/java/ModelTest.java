import java.util.Random;

/** Promises 1 to 23: runs of calls by a fixed seed, each answer held against the slow Model. */
public final class ModelTest {
    private static final int RUNS = 500;
    private static final int CALLS = 512;
    private static final int[] ODD = {Integer.MIN_VALUE, -2, -1, 7, 9, 10, 31, 32, 33, 64, Integer.MAX_VALUE};

    private static final Due d = new Due();

    private final Random random;
    private final KindWords x = new KindWords();
    private final Model m = new Model();
    private String letters = "";
    private String call;
    private long got;
    private long want;

    private ModelTest(long seed) {
        random = new Random(seed);
    }

    public static void main(String[] args) {
        for (int run = 0; run < RUNS && !d.failed(); run++) {
            new ModelTest(run).play(run);
        }
        d.end();
    }

    private void play(int run) {
        for (int n = 0; n < CALLS && !d.failed(); n++) {
            int promise = step();
            d.due(promise, "run " + run + ", call " + n + ", " + call, got, want);
            if (n % 8 == 0 && n < CALLS - 1) {
                n++;
                d.due(promise, "run " + run + ", digest() behind call " + n + ", " + call, x.digest(), m.digest());
            }
        }
    }

    private void told(String calledSo, long answered, long due) {
        call = calledSo;
        got = answered;
        want = due;
    }

    /** A number below the bound; at times another one. */
    private int below(int bound) {
        if (random.nextInt(25) == 0) {
            return ODD[random.nextInt(ODD.length)];
        }
        return random.nextInt(25) == 0 ? bound : random.nextInt(bound);
    }

    private int nextLetter() {
        if (letters.isEmpty()) {
            letters = String.format("%02o,%02o,%02o;%d", random.nextInt(64) | random.nextInt(64),
                random.nextInt(64), random.nextInt(64) & random.nextInt(64), random.nextInt(10));
        }
        char letter = letters.charAt(0);
        letters = letters.substring(1);
        return random.nextInt(150) == 0 ? below(128) : letter;
    }

    private int step() {
        boolean noTown = m.count(9) == 0;
        int dice = random.nextInt(noTown ? 40 : 100);
        if (dice < (noTown ? 30 : 6)) {
            int code = nextLetter();
            told("letter(" + code + ")", x.letter(code), m.letter(code));
            return 2;
        }
        if (m.fault() == 10 && random.nextInt(noTown ? 2 : 12) == 0 || random.nextInt(60) == 0) {
            told("town()", x.town(), m.town());
            return 5;
        }
        if (random.nextInt(letters.isEmpty() ? 8 : 90) == 0) {
            letters = "";
            told("blank()", x.blank(), m.blank());
            return 3;
        }
        return random.nextInt(3) == 0 ? ask() : act();
    }

    private int act() {
        int a = below(3);
        int b = below(6);
        int c = below(4);
        switch (random.nextInt(14)) {
            case 0:
                int kind = below(5);
                int fine = below(random.nextInt(3) == 0 ? 10 : 4);
                int knows = below(64);
                told("convict(" + kind + ", " + a + ", " + fine + ", " + knows + ")",
                    x.convict(kind, a, fine, knows), m.convict(kind, a, fine, knows));
                return 7;
            case 1, 2, 3, 4, 5:
                told("say(" + c + ", " + b + ")", x.say(c, b), m.say(c, b));
                return 10;
            case 6:
                told("learn(" + c + ", " + b + ")", x.learn(c, b), m.learn(c, b));
                return 11;
            case 7, 8, 9:
                told("night()", x.night(), m.night());
                return 12;
            case 10, 11:
                boolean counts = random.nextInt(3) > 0 == b % 2 > 0;
                told("trial(" + a + ", " + b + ", " + counts + ")", x.trial(a, b, counts), m.trial(a, b, counts));
                return 15;
            case 12:
                if (random.nextInt(4) == 0) {
                    told("forget()", x.forget(), m.forget());
                    return 16;
                }
                told("image()", x.image(), m.image());
                return 20;
            default:
                told("restore()", x.restore(), m.restore());
                return 21;
        }
    }

    private int ask() {
        int a = below(3);
        int b = below(6);
        int c = below(4);
        int what = below(10);
        switch (random.nextInt(10)) {
            case 0:
                told("victim(" + a + ", " + b + ")", x.victim(a, b), m.victim(a, b));
                return 6;
            case 1, 2:
                told("about(" + c + ", " + what + ")", x.about(c, what), m.about(c, what));
                return 8;
            case 3:
                told("as(" + c + ", " + b + ")", x.as(c, b), m.as(c, b));
                return 9;
            case 4:
                told("most(" + a + ")", x.most(a), m.most(a));
                return 13;
            case 5:
                told("who(" + a + ", " + b + ")", x.who(a, b), m.who(a, b));
                return 14;
            case 6:
                told("truths(" + a + ", " + c + ")", x.truths(a, c), m.truths(a, c));
                return 17;
            case 7:
                told("attempt(" + a + ")", x.attempt(a), m.attempt(a));
                return 18;
            case 8:
                int days = below(42);
                int seed = random.nextInt(3) == 0 ? random.nextInt() : below(1000);
                told("weeks(" + days + ", " + seed + ", " + a + ")", x.weeks(days, seed, a), m.weeks(days, seed, a));
                return 19;
            default:
                if (random.nextInt(3) == 0) {
                    told("fault()", x.fault(), m.fault());
                    return 4;
                }
                told("count(" + what + ")", x.count(what), m.count(what));
                return 22;
        }
    }
}
