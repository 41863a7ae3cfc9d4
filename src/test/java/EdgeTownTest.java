/** Boundary cases of promises 1 to 6; above each test stands the sentence that it holds. */
public final class EdgeTownTest {
    private static final String GOOD = "75,36,52;3";
    private static final String LOWEST = "00,00,00;0";
    private static final String HIGHEST = "77,77,77;9";

    private static final Due d = new Due();

    public static void main(String[] args) {
        noTownAtFirst();
        nothingIsUsedAtFirst();
        letterCodes();
        letterTwelveAndThirteen();
        letterOutsideAheadOfFull();
        letterRefusedChangesNothing();
        blankOfEmptyAndFull();
        faultOfNone();
        faultBesideEachLetter();
        faultBehindTheTenth();
        faultIsTheFirst();
        faultChangesNothing();
        townOfLeastAndMost();
        townOfEachSaying();
        townSheets();
        townRefusedByLength();
        townRefusedByLetter();
        townRefusedWithoutTown();
        townTakesAllAway();
        townTakesTheImageAway();
        victimNumbers();
        victimWhats();
        victimRefusalOrder();
        victimWithoutTown();
        victimEmptyAndFull();
        d.end();
    }

    // "No TOWN."
    private static void noTownAtFirst() {
        KindWords x = new KindWords();
        for (int v = 0; v < 3; v++) {
            for (int what = 0; what < 4; what++) {
                d.due(1, "victim(" + v + ", " + what + ")", x.victim(v, what), Due.UNKNOWN);
            }
        }
        d.due(1, "night()", x.night(), Due.STATE);
        d.due(1, "count(9)", x.count(9), 0);
    }

    // "At first there is none; it is DAY 0, no SAYING is USED."
    private static void nothingIsUsedAtFirst() {
        KindWords x = new KindWords();
        d.due(1, "count(5), no town", x.count(5), 0);
        d.due(1, "count(6), no town", x.count(6), 0);
        Due.read(x, HIGHEST);
        d.due(1, "count(5), a first town", x.count(5), 0);
        d.due(1, "count(6), a first town", x.count(6), 0);
        for (int v = 0; v < 3; v++) {
            d.due(1, "victim(" + v + ", 1), a first town", x.victim(v, 1), 0);
        }
    }

    // "OUTSIDE: code (1 to 126)"
    private static void letterCodes() {
        KindWords x = new KindWords();
        d.due(2, "letter(0)", x.letter(0), Due.OUTSIDE);
        d.due(2, "letter(1)", x.letter(1), 1);
        d.due(2, "letter(126)", x.letter(126), 2);
        d.due(2, "letter(127)", x.letter(127), Due.OUTSIDE);
        int[] alikeWhenCut = {48 + 256, 48 + 65536, 48 - 256, 48 - 65536, -1, Integer.MIN_VALUE, Integer.MAX_VALUE};
        for (int code : alikeWhenCut) {
            d.due(2, "letter(" + code + ")", x.letter(code), Due.OUTSIDE);
        }
        d.due(2, "count(8)", x.count(8), 2);
    }

    // "how many THE PAGE has", "FULL: above 12"
    private static void letterTwelveAndThirteen() {
        KindWords x = new KindWords();
        for (int n = 1; n <= 12; n++) {
            d.due(2, "letter(55), number " + n, x.letter(55), n);
        }
        d.due(2, "letter(55), number 13", x.letter(55), Due.FULL);
        d.due(2, "count(8)", x.count(8), 12);
        x.blank();
        d.due(2, "letter(55) behind blank()", x.letter(55), 1);
    }

    // "of several the first as told by each call": OUTSIDE, FULL
    private static void letterOutsideAheadOfFull() {
        KindWords x = new KindWords();
        Due.type(x, "777777777777");
        d.due(2, "letter(0), full", x.letter(0), Due.OUTSIDE);
        d.due(2, "letter(127), full", x.letter(127), Due.OUTSIDE);
        d.due(2, "letter(1), full", x.letter(1), Due.FULL);
        d.due(2, "letter(126), full", x.letter(126), Due.FULL);
    }

    // "they change nothing"
    private static void letterRefusedChangesNothing() {
        KindWords x = Due.town(GOOD);
        Due.type(x, GOOD);
        d.refused(2, "letter(0)", x.digest(), x.letter(0), Due.OUTSIDE, x.digest());
        d.refused(2, "letter(127)", x.digest(), x.letter(127), Due.OUTSIDE, x.digest());
        d.due(2, "town(), as if they had not come", x.town(), 12);
        Due.type(x, "75,36,52;3ab");
        d.refused(2, "letter(99), full", x.digest(), x.letter(99), Due.FULL, x.digest());
    }

    // "THE PAGE is empty: how many letters it had."
    private static void blankOfEmptyAndFull() {
        KindWords x = new KindWords();
        d.due(3, "blank(), empty", x.blank(), 0);
        x.letter(1);
        d.due(3, "blank(), one", x.blank(), 1);
        Due.type(x, "777777777777");
        d.due(3, "blank(), full", x.blank(), 12);
        d.due(3, "count(8)", x.count(8), 0);
        d.due(3, "fault(), nothing is left", x.fault(), 0);
        d.due(3, "blank(), empty again", x.blank(), 0);
    }

    // "how many letters it has, if there is none"
    private static void faultOfNone() {
        for (String text : new String[] {GOOD, LOWEST, HIGHEST, "07,70,07;5"}) {
            KindWords x = new KindWords();
            d.due(4, "fault(), empty", x.fault(), 0);
            for (int n = 1; n <= 10; n++) {
                x.letter(text.charAt(n - 1));
                d.due(4, "fault() of " + text.substring(0, n), x.fault(), n);
            }
        }
    }

    // "each two digits 0 to 7", "with ',' between", "';' and a digit SHEETS (0 to 9"
    private static void faultBesideEachLetter() {
        for (int place = 0; place < 10; place++) {
            char form = HIGHEST.charAt(place);
            char lowest = LOWEST.charAt(place);
            int[] codes = {lowest - 1, lowest, form, form + 1};
            for (int i = 0; i < codes.length; i++) {
                KindWords x = new KindWords();
                Due.type(x, GOOD.substring(0, place));
                x.letter(codes[i]);
                boolean taken = i == 1 || i == 2;
                d.due(4, "fault() with " + codes[i] + " at " + place, x.fault(), taken ? place + 1 : place);
            }
        }
    }

    // "the first letter of THE PAGE that no TOWN has there": none has an eleventh
    private static void faultBehindTheTenth() {
        for (char letter : new char[] {'0', '7', ',', ';', ' ', 1, 126}) {
            KindWords x = new KindWords();
            Due.type(x, GOOD + letter);
            d.due(4, "fault() of eleven", x.fault(), 10);
            x.letter(letter);
            d.due(4, "fault() of twelve", x.fault(), 10);
        }
    }

    // "the first letter", "behind those ahead of it"
    private static void faultIsTheFirst() {
        KindWords x = new KindWords();
        Due.type(x, "xxxxxxxxxxxx");
        d.due(4, "fault(), all are wrong", x.fault(), 0);
        for (int place = 0; place < 10; place++) {
            KindWords y = new KindWords();
            Due.type(y, GOOD.substring(0, place) + "x" + GOOD.substring(place + 1) + "x");
            d.due(4, "fault(), wrong at " + place + " and at 10", y.fault(), place);
        }
    }

    // It only tells: THE PAGE stays as it is.
    private static void faultChangesNothing() {
        KindWords x = Due.town(GOOD);
        Due.type(x, "75,x");
        long before = x.digest();
        d.due(4, "fault()", x.fault(), 3);
        d.due(4, "digest() behind fault()", x.digest(), before);
    }

    // "how many SAYINGS are TRUE of all VICTIMS together; THE PAGE is empty then"
    private static void townOfLeastAndMost() {
        KindWords x = new KindWords();
        d.due(5, "town() of none", Due.read(x, LOWEST), 0);
        d.due(5, "count(8)", x.count(8), 0);
        d.due(5, "town() of all", Due.read(x, HIGHEST), 18);
        d.due(5, "count(8)", x.count(8), 0);
        d.due(5, "count(9)", x.count(9), 2);
    }

    // "8 times the first and the second together are the SAYINGS (0 to 5, as bits)"
    private static void townOfEachSaying() {
        for (int v = 0; v < 3; v++) {
            for (int set = 0; set < 64; set++) {
                String[] parts = {"00", "00", "00"};
                parts[v] = "" + set / 8 + set % 8;
                KindWords x = new KindWords();
                int trueOnes = Due.read(x, String.join(",", parts) + ";0");
                d.due(5, "town() with " + set + " of " + v, trueOnes, Integer.bitCount(set));
                for (int other = 0; other < 3; other++) {
                    d.due(5, "victim(" + other + ", 0)", x.victim(other, 0), other == v ? set : 0);
                }
            }
        }
    }

    // "';' and a digit SHEETS (0 to 9"
    private static void townSheets() {
        for (int sheets = 0; sheets <= 9; sheets++) {
            KindWords x = new KindWords();
            d.due(5, "town()", Due.read(x, "00,00,01;" + sheets), 1);
            d.due(5, "count(1)", x.count(1), sheets);
        }
    }

    // "STATE: it is none": too short, too long
    private static void townRefusedByLength() {
        String longest = GOOD + "33";
        for (int n = 0; n <= 12; n++) {
            KindWords x = Due.town("11,11,11;1");
            Due.type(x, longest.substring(0, n));
            if (n == 10) {
                d.due(5, "town() of ten letters", x.town(), 12);
            } else {
                d.refused(5, "town() of " + n + " letters", x.digest(), x.town(), Due.STATE, x.digest());
                d.due(5, "count(8), they are still there", x.count(8), n);
            }
        }
    }

    // "STATE: it is none": one letter beside those that a TOWN has there
    private static void townRefusedByLetter() {
        for (int place = 0; place < 10; place++) {
            int[] codes = {LOWEST.charAt(place) - 1, HIGHEST.charAt(place) + 1};
            for (int code : codes) {
                KindWords x = Due.town("11,11,11;1");
                Due.type(x, GOOD.substring(0, place) + (char) code + GOOD.substring(place + 1));
                String call = "town() with " + code + " at " + place;
                d.refused(5, call, x.digest(), x.town(), Due.STATE, x.digest());
                d.due(5, "count(9) behind it", x.count(9), 1);
            }
        }
    }

    // "STATE: it is none": then there is no TOWN still
    private static void townRefusedWithoutTown() {
        KindWords x = new KindWords();
        Due.type(x, "75,36,52;");
        d.refused(5, "town()", x.digest(), x.town(), Due.STATE, x.digest());
        d.due(5, "victim(0, 0)", x.victim(0, 0), Due.UNKNOWN);
        d.due(5, "count(9)", x.count(9), 0);
        d.due(5, "letter(51), it goes on behind them", x.letter(51), 10);
        d.due(5, "town()", x.town(), 12);
    }

    // "another one is gone, with all that was"
    private static void townTakesAllAway() {
        KindWords x = Due.town("00,00,00;2");
        for (int c = 0; c < 4; c++) {
            x.convict(2, 0, 1, 63);
        }
        x.say(0, 0);
        x.say(1, 1);
        x.night();
        for (int n = 0; n < 8; n++) {
            x.trial(0, 0, n % 2 == 0);
        }
        d.due(5, "town()", Due.read(x, "00,00,00;2"), 0);
        int[] counts = {0, 2, 0, 0, 0, 0, 0, 0, 0, 2};
        for (int what = 0; what < counts.length; what++) {
            d.due(5, "count(" + what + ")", x.count(what), counts[what]);
        }
        d.due(5, "victim(0, 1)", x.victim(0, 1), 0);
        d.due(5, "victim(0, 2)", x.victim(0, 2), 0);
        d.due(5, "about(0, 0)", x.about(0, 0), Due.UNKNOWN);
        d.due(5, "truths(0, 0)", x.truths(0, 0), 64);
        d.due(5, "weeks(1, 0, 0)", x.weeks(1, 0, 0), Due.STATE);
        d.due(5, "convict(..), it is not full", x.convict(2, 0, 1, 63), 0);
        d.due(5, "about(0, 5), he has said none", x.about(0, 5), 1);
        d.due(5, "about(0, 6), none of his counted", x.about(0, 6), 0);
        d.due(5, "trial(..), it is not full", x.trial(0, 0, true), 1);
        d.due(5, "say(0, 0), it is new again", x.say(0, 0), 1);
    }

    // "another one is gone, with all that was"; "STATE: .. there is another TOWN since"
    private static void townTakesTheImageAway() {
        KindWords x = Due.town(GOOD);
        x.image();
        Due.read(x, GOOD);
        d.refused(21, "restore()", x.digest(), x.restore(), Due.STATE, x.digest());
    }

    // "three VICTIMS (0 to 2)"
    private static void victimNumbers() {
        KindWords x = Due.town(GOOD);
        d.refused(6, "victim(-1, 0)", x.digest(), x.victim(-1, 0), Due.UNKNOWN, x.digest());
        d.due(6, "victim(0, 0)", x.victim(0, 0), 61);
        d.due(6, "victim(2, 0)", x.victim(2, 0), 42);
        d.refused(6, "victim(3, 0)", x.digest(), x.victim(3, 0), Due.UNKNOWN, x.digest());
    }

    // "what = 0 .. 3"
    private static void victimWhats() {
        KindWords x = Due.town(GOOD);
        x.convict(0, 1, 7, 0);
        d.refused(6, "victim(1, -1)", x.digest(), x.victim(1, -1), Due.OUTSIDE, x.digest());
        d.due(6, "victim(1, 0)", x.victim(1, 0), 30);
        d.due(6, "victim(1, 3)", x.victim(1, 3), 7);
        d.refused(6, "victim(1, 4)", x.digest(), x.victim(1, 4), Due.OUTSIDE, x.digest());
    }

    // "of several the first as told by each call": UNKNOWN, OUTSIDE
    private static void victimRefusalOrder() {
        KindWords x = Due.town(GOOD);
        for (int v : new int[] {-1, 3}) {
            for (int what : new int[] {-1, 4}) {
                d.due(6, "victim(" + v + ", " + what + ")", x.victim(v, what), Due.UNKNOWN);
            }
        }
    }

    // "UNKNOWN (also without a TOWN)"
    private static void victimWithoutTown() {
        KindWords x = new KindWords();
        for (int v = -1; v <= 3; v++) {
            for (int what = -1; what <= 4; what++) {
                d.due(6, "victim(" + v + ", " + what + "), no town", x.victim(v, what), Due.UNKNOWN);
            }
        }
    }

    // "what is TRUE of it, 1 what is USED, as bits, 2 which CONVICTS it has, as bits, 3 FINES of these together"
    private static void victimEmptyAndFull() {
        KindWords x = Due.town("77,00,77;0");
        int[] none = {63, 0, 0, 0};
        for (int what = 0; what < 4; what++) {
            d.due(6, "victim(0, " + what + "), no convicts", x.victim(0, what), none[what]);
        }
        for (int c = 0; c < 4; c++) {
            x.convict(4, 0, 9, 63);
        }
        d.due(6, "victim(0, 2), all four", x.victim(0, 2), 15);
        d.due(6, "victim(0, 3), all four of 9", x.victim(0, 3), 36);
        for (int saying = 0; saying < 6; saying++) {
            x.say(saying / 3, saying);
        }
        d.due(6, "victim(0, 1), all are used", x.victim(0, 1), 63);
        d.due(6, "victim(0, 0), all are used", x.victim(0, 0), 63);
        d.due(6, "victim(0, 3), six are paid", x.victim(0, 3), 30);
        for (int what = 0; what < 4; what++) {
            d.due(6, "victim(1, " + what + "), bad and without convicts", x.victim(1, what), 0);
        }
    }
}
