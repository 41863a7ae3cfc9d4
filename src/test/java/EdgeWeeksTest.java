import java.math.BigInteger;

/** Boundary cases of promise 19; above each test stands the sentence that it holds. */
public final class EdgeWeeksTest {
    private static final BigInteger TIMES = BigInteger.valueOf(1103515245);
    private static final BigInteger AND = BigInteger.valueOf(12345);
    private static final BigInteger RESTS = BigInteger.TWO.pow(31);
    private static final int HIGHEST = Integer.MAX_VALUE;

    private static final Due d = new Due();

    public static void main(String[] args) {
        days();
        seeds();
        whats();
        refusalOrder();
        noConvicts();
        allHavePaid();
        seedsThatWrap();
        drawsAtTheRests();
        eachRestOfSix();
        asOftenAsHeMay();
        notKnownIsDrawnAndTakesOne();
        untilHeHasPaid();
        byNumber();
        restOfThisDay();
        lastSheetInTheWeeks();
        misersSecondInTheWeeks();
        onlyThoseOfTheWeeksCount();
        asTheyWouldBe();
        d.end();
    }

    private static int next(int seed) {
        return BigInteger.valueOf(seed).multiply(TIMES).add(AND).mod(RESTS).intValueExact();
    }

    private static int next(int seed, int draws) {
        int then = seed;
        for (int n = 0; n < draws; n++) {
            then = next(then);
        }
        return then;
    }

    /** The seed that comes before this one. */
    private static int before(int seed) {
        return BigInteger.valueOf(seed).subtract(AND).multiply(TIMES.modInverse(RESTS)).mod(RESTS).intValueExact();
    }

    private static int drawn(int seed) {
        return seed / 65536 % 6;
    }

    private static KindWords with(int kind, int fine, int knows) {
        KindWords x = Due.town("77,77,77;9");
        x.convict(kind, 0, fine, knows);
        return x;
    }

    // "OUTSIDE: days (1 to 40)"
    private static void days() {
        KindWords x = with(0, 1, 0);
        d.refused(19, "weeks(0, 7, 2)", x.digest(), x.weeks(0, 7, 2), Due.OUTSIDE, x.digest());
        d.due(19, "weeks(1, 7, 2)", x.weeks(1, 7, 2), next(7, 1));
        d.due(19, "weeks(39, 7, 2)", x.weeks(39, 7, 2), next(7, 39));
        d.due(19, "weeks(40, 7, 2)", x.weeks(40, 7, 2), next(7, 40));
        d.refused(19, "weeks(41, 7, 2)", x.digest(), x.weeks(41, 7, 2), Due.OUTSIDE, x.digest());
        d.refused(19, "weeks(-1, 7, 2)", x.digest(), x.weeks(-1, 7, 2), Due.OUTSIDE, x.digest());
    }

    // "OUTSIDE: .. seed (0 at least)"
    private static void seeds() {
        KindWords x = with(0, 1, 0);
        d.refused(19, "weeks(1, -1, 2)", x.digest(), x.weeks(1, -1, 2), Due.OUTSIDE, x.digest());
        int lowest = Integer.MIN_VALUE;
        d.refused(19, "weeks(1, lowest, 2)", x.digest(), x.weeks(1, lowest, 2), Due.OUTSIDE, x.digest());
        d.due(19, "weeks(1, 0, 2)", x.weeks(1, 0, 2), 12345);
        d.due(19, "weeks(1, highest, 2)", x.weeks(1, HIGHEST, 2), next(HIGHEST));
    }

    // "what = 0 how many COUNT, 1 how many have PAID then, 2 the SEED then. OUTSIDE: .. what"
    private static void whats() {
        KindWords x = with(4, 1, 63);
        d.refused(19, "weeks(1, 7, -1)", x.digest(), x.weeks(1, 7, -1), Due.OUTSIDE, x.digest());
        d.due(19, "weeks(1, 7, 0)", x.weeks(1, 7, 0), 1);
        d.due(19, "weeks(1, 7, 1)", x.weeks(1, 7, 1), 1);
        d.due(19, "weeks(1, 7, 2)", x.weeks(1, 7, 2), next(7));
        d.refused(19, "weeks(1, 7, 3)", x.digest(), x.weeks(1, 7, 3), Due.OUTSIDE, x.digest());
    }

    // "of several the first as told by each call": OUTSIDE, STATE
    private static void refusalOrder() {
        for (KindWords x : new KindWords[] {new KindWords(), Due.town("77,77,77;9")}) {
            d.due(19, "weeks(0, 0, 0)", x.weeks(0, 0, 0), Due.OUTSIDE);
            d.due(19, "weeks(41, 0, 0)", x.weeks(41, 0, 0), Due.OUTSIDE);
            d.due(19, "weeks(1, -1, 0)", x.weeks(1, -1, 0), Due.OUTSIDE);
            d.due(19, "weeks(1, 0, -1)", x.weeks(1, 0, -1), Due.OUTSIDE);
            d.due(19, "weeks(1, 0, 3)", x.weeks(1, 0, 3), Due.OUTSIDE);
            d.due(19, "weeks(1, 0, 0)", x.weeks(1, 0, 0), Due.STATE);
        }
    }

    // "STATE: there are no CONVICTS": no TOWN, none yet, gone by restore()
    private static void noConvicts() {
        KindWords x = new KindWords();
        d.refused(19, "weeks(), no town", x.digest(), x.weeks(1, 0, 2), Due.STATE, x.digest());
        Due.read(x, "77,77,77;9");
        d.refused(19, "weeks(), none yet", x.digest(), x.weeks(1, 0, 2), Due.STATE, x.digest());
        x.image();
        x.convict(0, 0, 1, 0);
        d.due(19, "weeks(), one", x.weeks(1, 0, 2), 12345);
        x.restore();
        d.refused(19, "weeks(), none again", x.digest(), x.weeks(1, 0, 2), Due.STATE, x.digest());
    }

    // "who has not PAID": those who have draw nothing, but they are there
    private static void allHavePaid() {
        KindWords x = with(0, 1, 1);
        x.say(0, 0);
        d.due(19, "weeks(40, 9, 0)", x.weeks(40, 9, 0), 0);
        d.due(19, "weeks(40, 9, 1)", x.weeks(40, 9, 1), 1);
        d.due(19, "weeks(40, 9, 2)", x.weeks(40, 9, 2), 9);
        d.due(19, "weeks(40, 0, 2)", x.weeks(40, 0, 2), 0);
        d.due(19, "weeks(40, highest, 2)", x.weeks(40, HIGHEST, 2), HIGHEST);
    }

    // "1103515245 times it and 12345, its rest by 2 to the 31": the last below it, the first above, 0, the highest
    private static void seedsThatWrap() {
        KindWords x = with(0, 1, 0);
        d.due(19, "weeks(1, 1, 2)", x.weeks(1, 1, 2), 1103527590);
        d.due(19, "weeks(1, 2, 2)", x.weeks(1, 2, 2), 2207042835L - 2147483648L);
        d.due(19, "weeks(1, 3, 2)", x.weeks(1, 3, 2), 3310558080L - 2147483648L);
        d.due(19, "weeks(1, 4, 2)", x.weeks(1, 4, 2), 4414073325L - 2 * 2147483648L);
        for (int then : new int[] {0, 1, 65535, 65536, 1 << 30, HIGHEST - 1, HIGHEST}) {
            d.due(19, "weeks(1, before(" + then + "), 2)", x.weeks(1, before(then), 2), then);
        }
        d.due(19, "weeks(2, before(0), 2)", x.weeks(2, before(0), 2), 12345);
        d.due(19, "weeks(40, highest, 2)", x.weeks(40, HIGHEST, 2), next(HIGHEST, 40));
    }

    // "then that by 65536 (rounded down), its rest": on both sides of each step
    private static void drawsAtTheRests() {
        int[] seeds = {0, 65535, 65536, 131071, 131072, 5 * 65536 - 1, 5 * 65536, 6 * 65536 - 1, 6 * 65536,
            7 * 65536 - 1, 7 * 65536, 32767 * 65536 - 1, 32767 * 65536, HIGHEST};
        int[] sayings = {0, 0, 1, 1, 2, 4, 5, 5, 0, 0, 1, 0, 1, 1};
        for (int i = 0; i < seeds.length; i++) {
            int first = before(seeds[i]);
            KindWords just = with(0, 1, 1 << sayings[i]);
            d.due(19, "weeks() draws " + sayings[i] + " by " + seeds[i], just.weeks(1, first, 0), 1);
            KindWords others = with(0, 1, 63 & ~(1 << sayings[i]));
            d.due(19, "weeks() draws no other by " + seeds[i], others.weeks(1, first, 0), 0);
        }
    }

    // "a DRAW of 6": each SAYING from 0 to 5 is drawn, and it is that one
    private static void eachRestOfSix() {
        for (int saying = 0; saying < 6; saying++) {
            for (int turn = 0; turn < 5461; turn += 1092) {
                int first = before((turn * 6 + saying) * 65536 + turn);
                KindWords x = with(0, 1, 1 << saying);
                d.due(19, "weeks() draws " + saying, x.weeks(1, first, 1), 1);
            }
        }
    }

    // "as often as he may"
    private static void asOftenAsHeMay() {
        int[] perDay = {1, 2, 1, 1, 3};
        for (int kind = 0; kind < 5; kind++) {
            KindWords x = with(kind, 9, 0);
            for (int days : new int[] {1, 2, 40}) {
                String call = "weeks(" + days + ", 5, 2), kind " + kind;
                d.due(19, call, x.weeks(days, 5, 2), next(5, days * perDay[kind]));
            }
        }
        KindWords y = Due.town("77,77,77;9");
        for (int c = 0; c < 4; c++) {
            y.convict(4, c % 3, 9, 0);
        }
        d.due(19, "weeks(40, 5, 2), four bards", y.weeks(40, 5, 2), next(5, 480));
    }

    // "one that he does not KNOW is not said (but it is drawn, and he may say one less)"
    private static void notKnownIsDrawnAndTakesOne() {
        int first = 0;
        for (int seed = 0; seed < 1000 && first == 0; seed++) {
            boolean secondIsNew = drawn(next(seed, 1)) != drawn(next(seed, 2));
            boolean thirdIsNew = drawn(next(seed, 3)) != drawn(next(seed, 1)) && drawn(next(seed, 3)) != drawn(next(seed, 2));
            first = secondIsNew && thirdIsNew ? seed : 0;
        }
        d.that("no seed with three draws that differ", first > 0);
        int second = 1 << drawn(next(first, 2));
        int third = 1 << drawn(next(first, 3));
        d.due(19, "one a day, he knows the second alone", with(0, 1, second).weeks(1, first, 0), 0);
        d.due(19, "one a day, on the second day", with(0, 1, second).weeks(2, first, 0), 1);
        d.due(19, "two a day, he knows the second alone", with(1, 1, second).weeks(1, first, 0), 1);
        d.due(19, "two a day, he knows the third alone", with(1, 1, third).weeks(1, first, 0), 0);
        d.due(19, "three a day, he knows the third alone", with(4, 1, third).weeks(1, first, 0), 1);
        d.due(19, "two a day, so many are drawn", with(1, 1, third).weeks(1, first, 2), next(first, 2));
    }

    // "until he has PAID": he draws no more on that DAY, nor later
    private static void untilHeHasPaid() {
        KindWords x = with(4, 1, 63);
        for (int days : new int[] {1, 2, 40}) {
            d.due(19, "weeks(" + days + ", 11, 2), a bard of 1", x.weeks(days, 11, 2), next(11));
            d.due(19, "weeks(" + days + ", 11, 0), a bard of 1", x.weeks(days, 11, 0), 1);
            d.due(19, "weeks(" + days + ", 11, 1), a bard of 1", x.weeks(days, 11, 1), 1);
        }
    }

    // "each CONVICT, by number": who comes first uses it, and his draw is the first
    private static void byNumber() {
        int first = 0;
        for (int seed = 0; seed < 1000 && first == 0; seed++) {
            first = drawn(next(seed, 1)) != drawn(next(seed, 2)) ? seed : 0;
        }
        d.that("no seed with two draws that differ", first > 0);
        int one = 1 << drawn(next(first, 1));
        int two = 1 << drawn(next(first, 2));
        int[][] known = {{one, two}, {two, one}, {one, one}, {two, two}};
        int[] counts = {2, 0, 1, 1};
        for (int i = 0; i < counts.length; i++) {
            KindWords x = Due.town("77,77,77;9");
            x.convict(0, 0, 9, known[i][0]);
            x.convict(0, 0, 9, known[i][1]);
            d.due(19, "weeks(1, " + first + ", 0), way " + i, x.weeks(1, first, 0), counts[i]);
        }
        KindWords y = Due.town("77,77,77;9");
        y.convict(0, 0, 1, 63);
        y.convict(0, 0, 1, 63);
        int same = 0;
        for (int seed = 0; seed < 1000 && same == 0; seed++) {
            same = drawn(next(seed, 1)) == drawn(next(seed, 2)) ? seed : 0;
        }
        d.due(19, "weeks(), both draw the same", y.weeks(1, same, 0), 1);
        d.due(19, "weeks(), both draw the same, paid", y.weeks(1, same, 1), 1);
    }

    // "as often as he may": on the first DAY those that he may say yet
    private static void restOfThisDay() {
        int[] perDay = {1, 2, 1, 1, 3};
        for (int kind = 0; kind < 5; kind++) {
            KindWords x = Due.town("00,00,00;0");
            x.convict(kind, 0, 9, 1);
            for (int more = perDay[kind]; more >= 0; more--) {
                String told = ", kind " + kind + ", " + more + " more today";
                d.due(19, "weeks(1, 6, 2)" + told, x.weeks(1, 6, 2), next(6, more));
                d.due(19, "weeks(2, 6, 2)" + told, x.weeks(2, 6, 2), next(6, more + perDay[kind]));
                x.say(0, 0);
            }
        }
    }

    // "as long as there are SHEETS": those that end within the weeks are still there then
    private static void lastSheetInTheWeeks() {
        for (int sheets = 0; sheets <= 9; sheets++) {
            KindWords x = Due.town("00,00,00;" + sheets);
            for (int c = 0; c < 4; c++) {
                x.convict(2, c % 3, 9, 63);
            }
            d.due(19, "weeks(40, 3, 0), sheets " + sheets, x.weeks(40, 3, 0), sheets);
            d.due(19, "count(1)", x.count(1), sheets);
        }
    }

    // "of a MISER only each second one that COUNTS makes it less"
    private static void misersSecondInTheWeeks() {
        KindWords x = with(3, 1, 63);
        d.due(19, "weeks(1, 4, 0), a first", x.weeks(1, 4, 0), 1);
        d.due(19, "weeks(1, 4, 1), a first", x.weeks(1, 4, 1), 0);
        d.due(19, "weeks(40, 4, 0), a second", x.weeks(40, 4, 0), 2);
        d.due(19, "weeks(40, 4, 1), a second", x.weeks(40, 4, 1), 1);
        x.say(0, 5);
        x.night();
        d.due(19, "weeks(40, 4, 0), one was said", x.weeks(40, 4, 0), 1);
        d.due(19, "weeks(40, 4, 1), one was said", x.weeks(40, 4, 1), 1);
    }

    // "how many COUNT, how many have PAID then": those who had PAID are among them, what COUNTED before is not
    private static void onlyThoseOfTheWeeksCount() {
        KindWords x = Due.town("77,77,77;9");
        x.convict(1, 0, 2, 63);
        x.convict(0, 1, 1, 63);
        x.convict(0, 2, 1, 0);
        x.say(0, 0);
        x.say(0, 1);
        d.due(19, "weeks(1, 3, 0)", x.weeks(1, 3, 0), 1);
        d.due(19, "weeks(1, 3, 1)", x.weeks(1, 3, 1), 2);
        d.due(19, "weeks(1, 3, 2), who has paid draws nothing", x.weeks(1, 3, 2), next(3, 2));
    }

    // "WEEKS by a SEED, as they would be": nothing is said, neither is it NIGHT
    private static void asTheyWouldBe() {
        KindWords x = Due.town("75,36,52;9");
        for (int kind = 1; kind <= 4; kind++) {
            x.convict(kind, kind % 3, 3, 63);
        }
        x.trial(0, 0, true);
        x.image();
        x.say(0, 1);
        long before = x.digest();
        int counted = x.weeks(40, HIGHEST, 0);
        d.due(19, "digest() behind weeks()", x.digest(), before);
        d.due(19, "weeks() again", x.weeks(40, HIGHEST, 0), counted);
        d.due(19, "restore() behind weeks()", x.restore(), 0);
        x.say(0, 1);
        d.due(19, "digest() behind restore()", x.digest(), before);
    }
}
