/** Promise 19: weeks. */
public final class WeeksTest {
    private static final Due d = new Due();

    public static void main(String[] args) {
        draws();
        drawnSayings();
        fourConvicts();
        onlyAsTheyWouldBe();
        paidOnesDoNotDraw();
        restOfToday();
        sheetsEnd();
        refused();
        d.end();
    }

    private static long next(long seed) {
        return (1103515245L * seed + 12345L) % (1L << 31);
    }

    // Who knows nothing only draws: once a day, a poet twice, a bard three times.
    private static void draws() {
        int[] kinds = {0, 1, 4};
        int[] perDay = {1, 2, 3};
        for (int i = 0; i < kinds.length; i++) {
            KindWords x = Due.town("77,77,77;9");
            x.convict(kinds[i], 0, 1, 0);
            int[] seeds = {0, 1, 371, 65536, Integer.MAX_VALUE};
            for (int first : seeds) {
                long seed = first;
                for (int days = 1; days <= 40; days++) {
                    for (int n = 0; n < perDay[i]; n++) {
                        seed = next(seed);
                    }
                    d.due(19, "weeks(" + days + ", " + first + ", 2)", x.weeks(days, first, 2), seed);
                }
                d.due(19, "weeks(40, " + first + ", 0)", x.weeks(40, first, 0), 0);
                d.due(19, "weeks(40, " + first + ", 1)", x.weeks(40, first, 1), 0);
            }
        }
    }

    // Who knows one saying alone has it count just if it is drawn.
    private static void drawnSayings() {
        for (int first = 0; first < 3000; first++) {
            long drawn = next(first) / 65536 % 6;
            KindWords x = Due.town("77,77,77;9");
            for (int saying = 0; saying < 3; saying++) {
                x.convict(0, saying, 1, 1 << drawn);
            }
            d.due(19, "weeks(1, " + first + ", 2)", x.weeks(1, first, 2), next(next(next(first))));
            long second = next(next(first)) / 65536 % 6;
            long third = next(next(next(first))) / 65536 % 6;
            int count = 1 + (second == drawn ? 1 : 0) + (third == drawn ? 1 : 0);
            d.due(19, "weeks(1, " + first + ", 0)", x.weeks(1, first, 0), count);
            d.due(19, "weeks(1, " + first + ", 1)", x.weeks(1, first, 1), count);
        }
    }

    private static void fourConvicts() {
        KindWords x = Due.town("77,77,77;9");
        int[] kinds = {0, 1, 2, 4};
        long seed = 8;
        for (int kind : kinds) {
            x.convict(kind, 0, 1, 0);
        }
        for (int n = 0; n < 2 * (1 + 2 + 1 + 3); n++) {
            seed = next(seed);
        }
        d.due(19, "weeks(2, 8, 2) of four", x.weeks(2, 8, 2), seed);
    }

    private static void onlyAsTheyWouldBe() {
        KindWords x = Due.town("77,77,77;9");
        x.convict(1, 0, 4, 63);
        x.convict(2, 1, 4, 63);
        x.say(0, 0);
        long before = x.digest();
        x.weeks(40, 7, 0);
        d.due(19, "digest() behind weeks()", x.digest(), before);
        d.due(19, "weeks(40, 7, 1)", x.weeks(40, 7, 1), 2);
        d.due(19, "weeks(40, 7, 0)", x.weeks(40, 7, 0), 7);
        d.due(19, "weeks(40, 7, 0), again", x.weeks(40, 7, 0), 7);
    }

    private static void paidOnesDoNotDraw() {
        KindWords x = Due.town("77,77,77;9");
        x.convict(4, 0, 1, 63);
        x.say(0, 0);
        d.due(19, "weeks(9, 5, 2), all have paid", x.weeks(9, 5, 2), 5);
        d.due(19, "weeks(9, 5, 1), all have paid", x.weeks(9, 5, 1), 1);
        d.due(19, "weeks(9, 5, 0), all have paid", x.weeks(9, 5, 0), 0);
        KindWords y = Due.town("77,77,77;9");
        y.convict(4, 0, 1, 63);
        d.due(19, "weeks(9, 5, 2), he pays by one", y.weeks(9, 5, 2), next(5));
        d.due(19, "weeks(9, 5, 0), he pays by one", y.weeks(9, 5, 0), 1);
    }

    private static void restOfToday() {
        KindWords x = Due.town("00,77,77;9");
        x.convict(4, 0, 1, 1);
        x.say(0, 0);
        d.due(19, "weeks(1, 3, 2), two more today", x.weeks(1, 3, 2), next(next(3)));
        x.say(0, 0);
        x.say(0, 0);
        d.due(19, "weeks(1, 3, 2), none more today", x.weeks(1, 3, 2), 3);
        d.due(19, "weeks(2, 3, 2), three tomorrow", x.weeks(2, 3, 2), next(next(next(3))));
    }

    private static void sheetsEnd() {
        KindWords x = Due.town("00,00,00;4");
        x.convict(2, 0, 9, 63);
        x.convict(2, 1, 9, 63);
        x.convict(0, 2, 9, 63);
        d.due(19, "weeks(40, 1, 0)", x.weeks(40, 1, 0), 4);
        d.due(19, "weeks(40, 1, 1)", x.weeks(40, 1, 1), 0);
        d.due(19, "count(1)", x.count(1), 4);
    }

    private static void refused() {
        KindWords x = Due.town("77,77,77;9");
        d.due(19, "weeks(1, 0, 0), no convicts", x.weeks(1, 0, 0), Due.STATE);
        d.due(19, "weeks(41, 0, 0), no convicts", x.weeks(41, 0, 0), Due.OUTSIDE);
        x.convict(0, 0, 1, 0);
        d.due(19, "weeks(0, 0, 0)", x.weeks(0, 0, 0), Due.OUTSIDE);
        d.due(19, "weeks(41, 0, 0)", x.weeks(41, 0, 0), Due.OUTSIDE);
        d.due(19, "weeks(1, 0, 3)", x.weeks(1, 0, 3), Due.OUTSIDE);
        for (int far : Due.FAR) {
            d.due(19, "weeks(" + far + ", 0, 0)", x.weeks(far, 0, 0), Due.OUTSIDE);
            d.due(19, "weeks(1, 0, " + far + ")", x.weeks(1, 0, far), Due.OUTSIDE);
        }
        d.due(19, "weeks(1, -1, 0)", x.weeks(1, -1, 0), Due.OUTSIDE);
        d.due(19, "weeks(1, MIN, 0)", x.weeks(1, Integer.MIN_VALUE, 0), Due.OUTSIDE);
        d.due(19, "weeks(1, MAX, 0)", x.weeks(1, Integer.MAX_VALUE, 0), 0);
    }
}
