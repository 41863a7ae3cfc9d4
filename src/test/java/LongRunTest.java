import java.util.function.ToLongFunction;

/** "An object is used for at most 512 calls after it has been made": it answers as due up to the last. */
public final class LongRunTest {
    private static final int CALLS = 512;
    private static final int BEYOND = 5000;
    private static final int TOWN_CALLS = 11;

    private static final Due d = new Due();

    public static void main(String[] args) {
        letters();
        towns();
        nights();
        saysAndNights();
        trialsAndForgets();
        images();
        sameAnswers();
        beyond();
        d.end();
    }

    // letter() and blank() to the end
    private static void letters() {
        KindWords x = new KindWords();
        for (int n = 1; n <= CALLS; n++) {
            if (n % 14 == 0) {
                d.due(3, "blank(), call " + n, x.blank(), 12);
            } else {
                d.due(2, "letter(48), call " + n, x.letter(48), n % 14 < 13 ? n % 14 : Due.FULL);
            }
        }
    }

    // As many towns as can be read
    private static void towns() {
        KindWords x = new KindWords();
        int read = 0;
        for (int n = TOWN_CALLS; n < CALLS; n += TOWN_CALLS) {
            d.due(5, "town() at call " + n, Due.read(x, read % 2 == 0 ? "77,77,77;9" : "00,00,00;0"), read % 2 == 0 ? 18 : 0);
            read++;
        }
        d.due(22, "count(9)", x.count(9), read);
        d.that("not as many towns as can be", read == (CALLS - 1) / TOWN_CALLS);
    }

    // The highest day
    private static void nights() {
        KindWords x = Due.town("77,77,77;9");
        for (int day = 1; day <= CALLS - TOWN_CALLS - 1; day++) {
            d.due(12, "night()", x.night(), day);
        }
        d.due(22, "count(6), the last call", x.count(6), CALLS - TOWN_CALLS - 1);
    }

    // A convict who never pays says one a day to the end
    private static void saysAndNights() {
        KindWords x = Due.town("37,77,77;0");
        x.convict(3, 0, 9, 63);
        int used = TOWN_CALLS + 1;
        for (int day = 0; used + 2 <= CALLS - 2; day++) {
            d.due(10, "say(0, " + day % 6 + ") on day " + day, x.say(0, day % 6), day < 5 ? 1 : 0);
            d.due(12, "night()", x.night(), day + 1);
            used += 2;
        }
        d.due(8, "about(0, 6)", x.about(0, 6), 5);
        d.due(8, "about(0, 2)", x.about(0, 2), 7);
    }

    private static void trialsAndForgets() {
        KindWords x = Due.town("77,77,77;9");
        for (int n = 1; n <= CALLS - TOWN_CALLS; n++) {
            if (n % 10 == 0) {
                d.due(16, "forget(), call " + n, x.forget(), 8);
            } else {
                d.due(15, "trial(..), call " + n, x.trial(n % 3, n % 6, n % 2 == 0), n % 10 < 9 ? n % 10 : Due.FULL);
            }
        }
    }

    private static void images() {
        KindWords x = Due.town("77,77,77;9");
        int used = TOWN_CALLS;
        for (int day = 0; used + 4 <= CALLS; day++) {
            d.due(20, "image()", x.image(), day);
            x.night();
            d.due(21, "restore()", x.restore(), day);
            d.due(12, "night()", x.night(), day + 1);
            used += 4;
        }
    }

    // What only tells tells the same to the end
    private static void sameAnswers() {
        same("digest()", x -> x.digest());
        same("most(0)", x -> x.most(0));
        same("who(0, 5)", x -> x.who(0, 5));
        same("weeks(40, 2147483647, 2)", x -> x.weeks(40, Integer.MAX_VALUE, 2));
        same("attempt(1)", x -> x.attempt(1));
        same("about(3, 7)", x -> x.about(3, 7));
    }

    private static KindWords busy() {
        KindWords x = Due.town("75,36,52;3");
        for (int c = 0; c < 4; c++) {
            x.convict(4 - c, c % 2, 2 + c, 63);
        }
        x.trial(1, 0, true);
        return x;
    }

    private static void same(String call, ToLongFunction<KindWords> made) {
        long first = made.applyAsLong(busy());
        KindWords x = busy();
        for (int n = TOWN_CALLS + 6; n <= CALLS; n++) {
            d.due(23, call + ", call " + n, made.applyAsLong(x), first);
        }
    }

    // "what later calls answer is free": but none may throw or fail to end
    private static void beyond() {
        KindWords x = new KindWords();
        int[] numbers = {0, 1, 2, 3, 5, 9, 63, -1, 6, 64, Integer.MAX_VALUE, Integer.MIN_VALUE};
        for (int n = 0; n < BEYOND; n++) {
            int a = numbers[n % 12];
            int b = numbers[n / 12 % 12];
            Due.read(x, "77,36,52;9");
            x.convict(a, b, a, b);
            x.convict(n % 5, n % 3, 1 + n % 9, n % 64);
            x.say(a, b);
            x.say(0, n % 6);
            x.learn(a, b);
            x.trial(a, b, n % 2 == 0);
            x.image();
            x.night();
            x.restore();
            x.weeks(b, a, n % 3);
            x.about(a, b);
            x.as(a, b);
            x.victim(a, b);
            x.who(a, b);
            x.truths(a, b);
            x.attempt(a);
            x.most(a);
            x.count(b);
            x.fault();
            x.letter(a);
            x.digest();
            x.forget();
            x.blank();
        }
    }
}
