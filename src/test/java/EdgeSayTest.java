/** Boundary cases of promise 10; above each test stands the sentence that it holds. */
public final class EdgeSayTest {
    private static final Due d = new Due();

    public static void main(String[] args) {
        numbers();
        stateOfOneWhoHasPaid();
        stateOfOneWhoMaySayNoMore();
        stateOfOneWhoDoesNotKnow();
        unknownAheadOfState();
        asManyADay();
        whatDoesNotCountIsSaidToo();
        usedByEach();
        usedOfThatOneAlone();
        noSheetsButForForgers();
        noSheetsAtFirst();
        theLastSheet();
        nineSheets();
        trueOnesTakeNoSheet();
        usedOnesTakeNoSheet();
        forgedOnesAreUsed();
        eachSecondOfAMiser();
        fineOfOneAndOfNine();
        d.end();
    }

    // "UNKNOWN: convict, saying"
    private static void numbers() {
        KindWords x = Due.town("77,77,77;9");
        d.refused(10, "say(0, 0), no convicts", x.digest(), x.say(0, 0), Due.UNKNOWN, x.digest());
        x.convict(1, 0, 9, 63);
        x.convict(1, 1, 9, 63);
        d.refused(10, "say(-1, 0)", x.digest(), x.say(-1, 0), Due.UNKNOWN, x.digest());
        d.refused(10, "say(2, 0)", x.digest(), x.say(2, 0), Due.UNKNOWN, x.digest());
        d.refused(10, "say(0, -1)", x.digest(), x.say(0, -1), Due.UNKNOWN, x.digest());
        d.refused(10, "say(0, 6)", x.digest(), x.say(0, 6), Due.UNKNOWN, x.digest());
        d.refused(10, "say(0, 32)", x.digest(), x.say(0, 32), Due.UNKNOWN, x.digest());
        d.due(10, "say(0, 0)", x.say(0, 0), 1);
        d.due(10, "say(1, 5)", x.say(1, 5), 1);
        d.due(10, "victim(0, 1)", x.victim(0, 1), 1);
        d.due(10, "victim(1, 1)", x.victim(1, 1), 32);
        d.due(10, "say(0, 0), no town", new KindWords().say(0, 0), Due.UNKNOWN);
    }

    // "STATE: he has PAID": he knows it and may say more
    private static void stateOfOneWhoHasPaid() {
        KindWords x = Due.town("77,77,77;9");
        x.convict(4, 0, 2, 63);
        d.due(10, "say(0, 0), 2 to pay", x.say(0, 0), 1);
        d.due(10, "say(0, 1), 1 to pay", x.say(0, 1), 1);
        d.due(10, "about(0, 5)", x.about(0, 5), 1);
        d.refused(10, "say(0, 2), paid", x.digest(), x.say(0, 2), Due.STATE, x.digest());
        x.night();
        d.refused(10, "say(0, 2), paid, the next day", x.digest(), x.say(0, 2), Due.STATE, x.digest());
    }

    // "STATE: .. may say no more today": he knows it and has not PAID
    private static void stateOfOneWhoMaySayNoMore() {
        KindWords x = Due.town("77,77,77;9");
        x.convict(0, 0, 9, 63);
        d.due(10, "say(0, 0)", x.say(0, 0), 1);
        d.refused(10, "say(0, 1), no more today", x.digest(), x.say(0, 1), Due.STATE, x.digest());
        x.night();
        d.due(10, "say(0, 1), the next day", x.say(0, 1), 1);
    }

    // "STATE: .. does not KNOW it": he may say more and has not PAID
    private static void stateOfOneWhoDoesNotKnow() {
        for (int saying = 0; saying < 6; saying++) {
            KindWords x = Due.town("77,77,77;9");
            x.convict(2, 0, 9, 63 & ~(1 << saying));
            d.refused(10, "say(0, " + saying + "), not known", x.digest(), x.say(0, saying), Due.STATE, x.digest());
            x.learn(0, saying);
            d.due(10, "say(0, " + saying + "), learned", x.say(0, saying), 1);
        }
    }

    // "of several the first as told by each call": UNKNOWN, STATE
    private static void unknownAheadOfState() {
        KindWords x = Due.town("77,77,77;9");
        x.convict(0, 0, 1, 1);
        x.say(0, 0);
        for (int saying : new int[] {-1, 6}) {
            d.due(10, "say(0, " + saying + "), paid, no more today", x.say(0, saying), Due.UNKNOWN);
        }
        d.due(10, "say(1, 0)", x.say(1, 0), Due.UNKNOWN);
        d.due(10, "say(0, 0)", x.say(0, 0), Due.STATE);
    }

    // "On a DAY a CONVICT may say one SAYING, a POET two, a BARD three; others one."
    private static void asManyADay() {
        int[] perDay = {1, 2, 1, 1, 3};
        for (int kind = 0; kind < 5; kind++) {
            KindWords x = Due.town("77,77,77;0");
            x.convict(kind, 0, 9, 63);
            for (int day = 0; day < 2 && day * perDay[kind] < 6; day++) {
                for (int n = 0; n < perDay[kind]; n++) {
                    int saying = day * perDay[kind] + n;
                    d.due(10, "say(0, " + saying + ") by kind " + kind, x.say(0, saying), 1);
                }
                d.due(10, "one more by kind " + kind, x.say(0, 5), Due.STATE);
                x.night();
            }
        }
    }

    // "may say one SAYING": one that does not COUNT is said, too
    private static void whatDoesNotCountIsSaidToo() {
        KindWords x = Due.town("76,77,77;0");
        x.convict(1, 0, 9, 63);
        d.due(10, "say(0, 0), not true", x.say(0, 0), 0);
        d.due(10, "about(0, 5)", x.about(0, 5), 1);
        d.due(10, "about(0, 2)", x.about(0, 2), 9);
        d.due(10, "about(0, 6)", x.about(0, 6), 0);
        d.due(10, "victim(0, 1), it is not used", x.victim(0, 1), 0);
        d.due(10, "say(0, 1)", x.say(0, 1), 1);
        d.due(10, "say(0, 2), a third", x.say(0, 2), Due.STATE);
    }

    // "if it is not USED of that one": by himself, by another, on another DAY
    private static void usedByEach() {
        KindWords x = Due.town("77,77,77;9");
        x.convict(1, 0, 9, 63);
        x.convict(2, 0, 9, 63);
        d.due(10, "say(0, 3), new", x.say(0, 3), 1);
        d.due(10, "say(0, 3), used by himself", x.say(0, 3), 0);
        d.due(10, "say(1, 3), used by another", x.say(1, 3), 0);
        x.night();
        d.due(10, "say(0, 3), used on another day", x.say(0, 3), 0);
        d.due(10, "say(1, 3), used on another day", x.say(1, 3), 0);
        d.due(10, "count(5)", x.count(5), 1);
        d.due(10, "about(0, 2)", x.about(0, 2), 8);
        d.due(10, "about(1, 2)", x.about(1, 2), 9);
    }

    // "not USED of that one": of another VICTIM it is new
    private static void usedOfThatOneAlone() {
        KindWords x = Due.town("77,77,77;9");
        for (int v = 0; v < 3; v++) {
            x.convict(0, v, 9, 63);
        }
        for (int v = 0; v < 3; v++) {
            d.due(10, "say(" + v + ", 3)", x.say(v, 3), 1);
            d.due(10, "count(5)", x.count(5), v + 1);
        }
    }

    // "by a FORGER also, if it is not TRUE": by no other KIND
    private static void noSheetsButForForgers() {
        for (int kind = 0; kind < 5; kind++) {
            KindWords x = Due.town("00,00,00;9");
            x.convict(kind, 0, 9, 63);
            d.due(10, "say(0, 0), not true, by kind " + kind, x.say(0, 0), kind == 2 ? 1 : 0);
            d.due(10, "count(1)", x.count(1), kind == 2 ? 8 : 9);
            d.due(10, "victim(0, 1)", x.victim(0, 1), kind == 2 ? 1 : 0);
            d.due(10, "about(0, 2)", x.about(0, 2), kind == 2 ? 8 : 9);
        }
    }

    // "as long as there are SHEETS": none from the first
    private static void noSheetsAtFirst() {
        KindWords x = Due.town("10,00,00;0");
        x.convict(2, 0, 9, 63);
        d.due(10, "say(0, 0), no sheets", x.say(0, 0), 0);
        d.due(10, "count(1)", x.count(1), 0);
        d.due(10, "count(5)", x.count(5), 0);
        x.night();
        d.due(10, "say(0, 3), true, no sheets", x.say(0, 3), 1);
        d.due(10, "count(1)", x.count(1), 0);
    }

    // "as long as there are SHEETS: that takes one": the last one, and none is left to another
    private static void theLastSheet() {
        KindWords x = Due.town("00,00,00;1");
        x.convict(2, 0, 9, 63);
        x.convict(2, 1, 9, 63);
        d.due(10, "say(0, 0), the last sheet", x.say(0, 0), 1);
        d.due(10, "count(1)", x.count(1), 0);
        d.due(10, "say(1, 0), no sheet left", x.say(1, 0), 0);
        d.due(10, "count(1)", x.count(1), 0);
        d.due(10, "about(1, 5), he said it", x.about(1, 5), 0);
        d.due(10, "about(1, 2)", x.about(1, 2), 9);
        d.due(10, "victim(1, 1)", x.victim(1, 1), 0);
    }

    // "SHEETS (0 to 9: how many SAYINGS that are not TRUE may count)": nine, and not a tenth
    private static void nineSheets() {
        KindWords x = Due.town("00,00,00;9");
        x.convict(2, 0, 9, 63);
        x.convict(2, 1, 9, 63);
        int said = 0;
        for (int saying = 0; saying < 6; saying++) {
            for (int c = 0; c < 2; c++) {
                said++;
                d.due(10, "say(" + c + ", " + saying + ")", x.say(c, saying), said <= 9 ? 1 : 0);
                d.due(10, "count(1)", x.count(1), Math.max(0, 9 - said));
            }
            x.night();
        }
        d.due(10, "count(5)", x.count(5), 9);
        d.due(10, "count(4)", x.count(4), 9);
    }

    // "if it is not TRUE, as long as there are SHEETS": one that is TRUE takes none
    private static void trueOnesTakeNoSheet() {
        KindWords x = Due.town("77,00,00;1");
        x.convict(2, 0, 9, 63);
        for (int saying = 0; saying < 6; saying++) {
            d.due(10, "say(0, " + saying + ")", x.say(0, saying), 1);
            d.due(10, "count(1)", x.count(1), 1);
            x.night();
        }
    }

    // "if it is not USED of that one": a forged one twice takes one SHEET
    private static void usedOnesTakeNoSheet() {
        KindWords x = Due.town("00,00,00;9");
        x.convict(2, 0, 9, 63);
        x.convict(2, 0, 9, 63);
        d.due(10, "say(0, 0)", x.say(0, 0), 1);
        d.due(10, "say(1, 0), used", x.say(1, 0), 0);
        x.night();
        d.due(10, "say(0, 0), used", x.say(0, 0), 0);
        d.due(10, "count(1)", x.count(1), 8);
    }

    // "it is USED then": a forged one, too
    private static void forgedOnesAreUsed() {
        KindWords x = Due.town("00,00,00;9");
        x.convict(2, 2, 1, 63);
        x.say(0, 5);
        d.due(10, "victim(2, 1)", x.victim(2, 1), 32);
        d.due(10, "victim(2, 0), it is not true by that", x.victim(2, 0), 0);
        d.due(10, "about(0, 2)", x.about(0, 2), 0);
        d.due(10, "count(3)", x.count(3), 1);
    }

    // "of a MISER only each second one that COUNTS makes it less (the second, the fourth, and so on)"
    private static void eachSecondOfAMiser() {
        KindWords x = Due.town("77,76,77;9");
        x.convict(3, 0, 3, 63);
        x.convict(3, 1, 9, 63);
        int[] fines = {3, 2, 2, 1, 1, 0};
        for (int saying = 0; saying < 6; saying++) {
            d.due(10, "say(0, " + saying + ")", x.say(0, saying), 1);
            d.due(10, "about(0, 2)", x.about(0, 2), fines[saying]);
            x.night();
        }
        d.due(10, "say(0, 0), paid by six", x.say(0, 0), Due.STATE);
        int[] sayings = {1, 0, 1, 2, 3};
        int[] counts = {1, 0, 0, 1, 1};
        int[] others = {9, 9, 9, 8, 8};
        for (int n = 0; n < sayings.length; n++) {
            d.due(10, "say(1, " + sayings[n] + ")", x.say(1, sayings[n]), counts[n]);
            d.due(10, "about(1, 2), only those that count", x.about(1, 2), others[n]);
            x.night();
        }
    }

    // "his FINE is 1 less", "Whose FINE is 0 has PAID."
    private static void fineOfOneAndOfNine() {
        KindWords x = Due.town("77,77,77;0");
        x.convict(4, 0, 1, 63);
        x.convict(4, 1, 9, 63);
        d.due(10, "count(3)", x.count(3), 0);
        x.say(0, 5);
        d.due(10, "about(0, 2)", x.about(0, 2), 0);
        d.due(10, "count(3)", x.count(3), 1);
        for (int saying = 0; saying < 6; saying++) {
            x.say(1, saying);
            d.due(10, "about(1, 2)", x.about(1, 2), 8 - saying);
            x.night();
        }
        d.due(10, "count(3), 3 are still to pay", x.count(3), 1);
        d.due(10, "say(1, 0), he may, but it does not count", x.say(1, 0), 0);
    }
}
