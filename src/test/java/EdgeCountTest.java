import java.math.BigInteger;
import java.util.ArrayList;
import java.util.List;

/** Boundary cases of promises 22 and 23; above each test stands the sentence that it holds. */
public final class EdgeCountTest {
    private static final Due d = new Due();

    public static void main(String[] args) {
        countWhats();
        countOfNothing();
        countOfAll();
        countOfAllPaid();
        countSheets();
        countTownsRead();
        countBeforeATown();
        digestOfEachStep();
        digestWraps();
        digestOfEmptyAndFullPage();
        digestTellsNone();
        digestChangesNothing();
        d.end();
    }

    // "How many: 0 .. 9"; "OUTSIDE"
    private static void countWhats() {
        KindWords x = Due.town("11,00,00;0");
        d.refused(22, "count(-1)", x.digest(), x.count(-1), Due.OUTSIDE, x.digest());
        d.due(22, "count(0)", x.count(0), 2);
        d.due(22, "count(9)", x.count(9), 1);
        d.refused(22, "count(10)", x.digest(), x.count(10), Due.OUTSIDE, x.digest());
        KindWords y = new KindWords();
        d.due(22, "count(-1), no town", y.count(-1), Due.OUTSIDE);
        d.due(22, "count(10), no town", y.count(10), Due.OUTSIDE);
    }

    // There is nothing to count: no TOWN, a TOWN of nothing
    private static void countOfNothing() {
        KindWords x = new KindWords();
        for (int what = 0; what <= 9; what++) {
            d.due(22, "count(" + what + "), no town", x.count(what), 0);
        }
        Due.read(x, "00,00,00;0");
        for (int what = 0; what <= 9; what++) {
            d.due(22, "count(" + what + "), nothing", x.count(what), what == 9 ? 1 : 0);
        }
    }

    // As many as there can be
    private static void countOfAll() {
        KindWords x = Due.town("77,77,77;9");
        for (int c = 0; c < 4; c++) {
            x.convict(4, c % 3, 9, 63);
        }
        d.due(22, "count(4), four of 9", x.count(4), 36);
        for (int saying = 0; saying < 6; saying++) {
            for (int c = 0; c < 3; c++) {
                x.say(c, saying);
            }
            x.night();
        }
        for (int n = 0; n < 8; n++) {
            x.trial(0, 0, true);
        }
        Due.type(x, "~~~~~~~~~~~~");
        int[] counts = {18, 9, 4, 0, 18, 18, 6, 8, 12, 1};
        for (int what = 0; what <= 9; what++) {
            d.due(22, "count(" + what + "), all", x.count(what), counts[what]);
        }
    }

    // "3 that have PAID, 4 FINES of all": from none to all
    private static void countOfAllPaid() {
        KindWords x = Due.town("77,77,77;9");
        for (int c = 0; c < 4; c++) {
            x.convict(0, 1, 1, 63);
        }
        for (int c = 0; c < 4; c++) {
            d.due(22, "count(3)", x.count(3), c);
            d.due(22, "count(4)", x.count(4), 4 - c);
            x.say(c, c);
        }
        d.due(22, "count(3), all", x.count(3), 4);
        d.due(22, "count(4), all", x.count(4), 0);
        d.due(22, "count(2), all", x.count(2), 4);
    }

    // "1 SHEETS that are left"; "5 SAYINGS that are USED": forged ones, too; "0 .. TRUE": these are not
    private static void countSheets() {
        KindWords x = Due.town("00,00,00;1");
        x.convict(2, 0, 9, 63);
        x.say(0, 0);
        d.due(22, "count(0)", x.count(0), 0);
        d.due(22, "count(1)", x.count(1), 0);
        d.due(22, "count(5)", x.count(5), 1);
    }

    // "9 how often a TOWN was read": those refused were not
    private static void countTownsRead() {
        KindWords x = new KindWords();
        for (int n = 1; n <= 3; n++) {
            d.due(22, "town(), empty", x.town(), Due.STATE);
            d.due(22, "count(9), refused", x.count(9), n - 1);
            Due.read(x, "00,00,00;0");
            d.due(22, "count(9), read", x.count(9), n);
        }
    }

    // Without a TOWN the letters are counted, too
    private static void countBeforeATown() {
        KindWords x = new KindWords();
        Due.type(x, "777777777777");
        d.due(22, "count(8)", x.count(8), 12);
        d.due(22, "count(0)", x.count(0), 0);
    }

    /** The numbers that the document lists, in order, as the other calls tell them. */
    private static List<Integer> listed(KindWords x, String page) {
        List<Integer> told = new ArrayList<>();
        for (int v = 0; v < 3; v++) {
            for (int what = 0; what < 4; what++) {
                told.add(x.victim(v, what));
            }
            for (int saying = 0; saying < 6; saying++) {
                told.add(x.who(v, saying));
            }
            for (int what = 0; what < 3; what++) {
                told.add(x.truths(v, what));
            }
            told.add(x.attempt(v));
        }
        told.add(x.most(0));
        told.add(x.most(1));
        for (int c = 0; c < x.count(2); c++) {
            for (int what = 0; what < 9; what++) {
                told.add(x.about(c, what));
            }
        }
        for (char letter : page.toCharArray()) {
            told.add((int) letter);
        }
        for (int what = 0; what < 10; what++) {
            told.add(x.count(what));
        }
        return told;
    }

    /** "h is 883, then for each of these numbers, in order, 31 times h, and it", without any bound. */
    private static BigInteger unbounded(List<Integer> numbers) {
        BigInteger h = BigInteger.valueOf(883);
        for (int number : numbers) {
            h = h.multiply(BigInteger.valueOf(31)).add(BigInteger.valueOf(number));
        }
        return h;
    }

    private static void dueDigest(String when, KindWords x, String page) {
        d.due(23, "digest(), " + when, x.digest(), unbounded(listed(x, page)).longValue());
    }

    private static KindWords withTrials(int convicts, int trials) {
        KindWords x = Due.town("75,36,52;3");
        for (int c = 0; c < convicts; c++) {
            x.convict(4 - c, c % 3, c + 1, 63 - c);
        }
        for (int n = 0; n < trials; n++) {
            x.trial(n % 3, n % 5, n % 2 == 0);
        }
        return x;
    }

    // "for each of these numbers, in order": from an empty TOWN to a full one
    private static void digestOfEachStep() {
        for (int convicts = 0; convicts <= 4; convicts++) {
            dueDigest(convicts + " convicts", withTrials(convicts, 0), "");
        }
        for (int trials = 1; trials <= 8; trials++) {
            dueDigest(trials + " trials", withTrials(4, trials), "");
        }
        for (int days = 1; days <= 6; days++) {
            KindWords x = withTrials(4, 8);
            for (int saying = 0; saying < days; saying++) {
                x.night();
                for (int c = 0; c < 4; c++) {
                    x.say(c, saying);
                }
            }
            dueDigest(days + " days", x, "");
            x.night();
            dueDigest(days + " days and a night", x, "");
        }
    }

    // "(as longs, wrapping)": to both sides of 0, and beyond ints
    private static void digestWraps() {
        boolean above = false;
        boolean below = false;
        for (int trials = 0; trials <= 8; trials++) {
            KindWords x = withTrials(1, trials);
            long digest = x.digest();
            BigInteger h = unbounded(listed(x, ""));
            d.that("the run does not wrap", h.bitLength() > 64);
            d.due(23, "digest(), wrapped", digest, h.mod(BigInteger.TWO.pow(64)).longValue());
            above |= digest > Integer.MAX_VALUE;
            below |= digest < Integer.MIN_VALUE;
        }
        d.that("the runs wrap to one side alone", above && below);
    }

    // "letters of THE PAGE": none, the lowest and the highest code, twelve
    private static void digestOfEmptyAndFullPage() {
        StringBuilder page = new StringBuilder();
        for (int n = 0; n <= 12; n++) {
            KindWords x = Due.town("77,77,77;9");
            Due.type(x, page.toString());
            dueDigest(n + " letters", x, page.toString());
            x.blank();
            dueDigest("an empty page again", x, "");
            page.append((char) (n % 2 == 0 ? 126 : 1));
        }
    }

    // NONE where there is nothing to tell is a number of the list, too
    private static void digestTellsNone() {
        KindWords x = Due.town("00,00,00;0");
        x.convict(0, 0, 1, 0);
        x.trial(0, 0, true);
        x.trial(0, 0, false);
        d.due(23, "about(0, 7)", x.about(0, 7), Due.NONE);
        d.due(23, "about(0, 8)", x.about(0, 8), Due.NONE);
        d.due(23, "truths(0, 1)", x.truths(0, 1), Due.NONE);
        d.due(23, "attempt(0)", x.attempt(0), Due.NONE);
        dueDigest("with none", x, "");
    }

    // It only tells
    private static void digestChangesNothing() {
        KindWords x = Due.town("75,36,52;3");
        x.convict(1, 0, 2, 63);
        x.convict(3, 0, 2, 63);
        long before = x.digest();
        d.due(23, "digest(), again", x.digest(), before);
        d.due(23, "who(0, 5) behind it", x.who(0, 5), 1);
        d.due(23, "restore() behind it", x.restore(), Due.STATE);
    }
}
