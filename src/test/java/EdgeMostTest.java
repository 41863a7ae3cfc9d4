/** Boundary cases of promises 13 and 14; above each test stands the sentence that it holds. */
public final class EdgeMostTest {
    private static final Due d = new Due();

    public static void main(String[] args) {
        mostWhats();
        mostWithoutTown();
        mostOfNobody();
        mostOfAll();
        noMoreThanHeNeeds();
        misersNeeds();
        misersNeedsBehindSome();
        whoHasPaidNeedsNone();
        sheetsDoNotMatter();
        daysDoNotMatter();
        eachSayingByOneAlone();
        whoNumbers();
        whoWithoutTown();
        whoNobody();
        whoNobodyFirst();
        whoByNumbers();
        whoGivesWay();
        whoOfEachVictimAlone();
        d.end();
    }

    private static void dueWho(KindWords x, int victim, int... want) {
        for (int saying = 0; saying < 6; saying++) {
            d.due(14, "who(" + victim + ", " + saying + ")", x.who(victim, saying), want[saying]);
        }
    }

    // "what = 0 how many, 1 RELEASE. OUTSIDE"
    private static void mostWhats() {
        KindWords x = Due.town("77,77,77;0");
        x.convict(0, 0, 3, 63);
        d.refused(13, "most(-1)", x.digest(), x.most(-1), Due.OUTSIDE, x.digest());
        d.due(13, "most(0)", x.most(0), 3);
        d.due(13, "most(1)", x.most(1), 1);
        d.refused(13, "most(2)", x.digest(), x.most(2), Due.OUTSIDE, x.digest());
    }

    // "OUTSIDE; STATE.", "STATE: no TOWN"
    private static void mostWithoutTown() {
        KindWords x = new KindWords();
        d.refused(13, "most(-1)", x.digest(), x.most(-1), Due.OUTSIDE, x.digest());
        d.refused(13, "most(0)", x.digest(), x.most(0), Due.STATE, x.digest());
        d.refused(13, "most(1)", x.digest(), x.most(1), Due.STATE, x.digest());
        d.refused(13, "most(2)", x.digest(), x.most(2), Due.OUTSIDE, x.digest());
    }

    // "how many SAYINGS all together can say", "whether by that all would have PAID": there is nobody who has not
    private static void mostOfNobody() {
        KindWords x = Due.town("77,77,77;0");
        d.due(13, "most(0), no convicts", x.most(0), 0);
        d.due(13, "most(1), no convicts", x.most(1), 1);
        x.convict(0, 0, 1, 0);
        d.due(13, "most(0), he knows nothing", x.most(0), 0);
        d.due(13, "most(1), he knows nothing", x.most(1), 0);
    }

    // "how many SAYINGS all together can say that COUNT": all eighteen
    private static void mostOfAll() {
        for (int last = 3; last <= 5; last++) {
            KindWords x = Due.town("77,77,77;0");
            x.convict(0, 0, 6, 63);
            x.convict(1, 1, 6, 63);
            x.convict(3, 2, 1, 63);
            x.convict(4, 2, last, 63);
            d.due(13, "most(0), the last needs " + last, x.most(0), Math.min(18, 14 + last));
            d.due(13, "most(1), the last needs " + last, x.most(1), last <= 4 ? 1 : 0);
        }
        KindWords y = Due.town("77,77,77;9");
        for (int c = 0; c < 4; c++) {
            y.convict(2, c % 3, 9, 63);
        }
        d.due(13, "most(0), all have fines of 9", y.most(0), 18);
        d.due(13, "most(1), all have fines of 9", y.most(1), 0);
    }

    // "each no more than he needs"
    private static void noMoreThanHeNeeds() {
        for (int fine = 1; fine <= 9; fine++) {
            for (int left = 0; left <= 6; left++) {
                KindWords x = Due.town("77,77,77;0");
                x.convict(0, 1, fine, (1 << left) - 1);
                String told = ", fine " + fine + ", left " + left;
                d.due(13, "most(0)" + told, x.most(0), Math.min(fine, left));
                d.due(13, "most(1)" + told, x.most(1), left >= fine ? 1 : 0);
            }
        }
    }

    // "a MISER twice his FINE"
    private static void misersNeeds() {
        for (int fine = 1; fine <= 9; fine++) {
            for (int left = 0; left <= 6; left++) {
                KindWords x = Due.town("77,77,77;0");
                x.convict(3, 1, fine, (1 << left) - 1);
                String told = " of a miser, fine " + fine + ", left " + left;
                d.due(13, "most(0)" + told, x.most(0), Math.min(2 * fine, left));
                d.due(13, "most(1)" + told, x.most(1), left >= 2 * fine ? 1 : 0);
            }
        }
    }

    // "one less if one COUNTED already that did not make it less"
    private static void misersNeedsBehindSome() {
        KindWords x = Due.town("77,77,77;0");
        x.convict(3, 0, 2, 63);
        int[] most = {3, 2, 1, 0};
        for (int saying = 0; saying < 4; saying++) {
            x.say(0, saying);
            d.due(13, "most(0), " + (saying + 1) + " counted", x.most(0), most[saying]);
            d.due(13, "most(1), " + (saying + 1) + " counted", x.most(1), 1);
            x.night();
        }
        KindWords y = Due.town("77,77,77;0");
        y.convict(3, 0, 1, 1);
        d.due(13, "most(1), two needed, one left", y.most(1), 0);
        y.say(0, 0);
        d.due(13, "most(1), one needed, none left", y.most(1), 0);
        y.learn(0, 1);
        d.due(13, "most(0), one needed, one left", y.most(0), 1);
        d.due(13, "most(1), one needed, one left", y.most(1), 1);
        KindWords z = Due.town("76,77,77;0");
        z.convict(3, 0, 2, 63);
        z.say(0, 0);
        d.due(13, "most(0), one said that did not count", z.most(0), 4);
    }

    // "who has PAID none"
    private static void whoHasPaidNeedsNone() {
        for (int kind = 0; kind < 5; kind++) {
            KindWords x = Due.town("77,77,77;0");
            x.convict(kind, 0, 1, 63);
            x.say(0, 0);
            x.night();
            if (kind == 3) {
                x.say(0, 1);
            }
            d.due(13, "about(0, 2), kind " + kind, x.about(0, 2), 0);
            d.due(13, "most(0), paid, kind " + kind, x.most(0), 0);
            d.due(13, "most(1), paid, kind " + kind, x.most(1), 1);
            dueWho(x, 0, -1, -1, -1, -1, -1, -1);
            x.convict(0, 0, 9, 63);
            d.due(13, "most(0), another has not, kind " + kind, x.most(0), kind == 3 ? 4 : 5);
            d.due(13, "most(1), another has not, kind " + kind, x.most(1), 0);
        }
    }

    // "(SHEETS, DAYS do not matter here:)"
    private static void sheetsDoNotMatter() {
        for (int sheets = 0; sheets <= 9; sheets += 9) {
            KindWords x = Due.town("01,77,77;" + sheets);
            x.convict(2, 0, 2, 63);
            d.due(13, "most(0), one is true, sheets " + sheets, x.most(0), 1);
            d.due(13, "most(1), one is true, sheets " + sheets, x.most(1), 0);
            dueWho(x, 0, 0, -1, -1, -1, -1, -1);
        }
    }

    // "(SHEETS, DAYS do not matter here:)"
    private static void daysDoNotMatter() {
        KindWords x = Due.town("77,77,77;0");
        x.convict(0, 0, 6, 63);
        d.due(13, "most(0), six by one a day", x.most(0), 6);
        x.say(0, 0);
        d.due(13, "most(0), he may say no more today", x.most(0), 5);
        d.due(13, "most(1), he may say no more today", x.most(1), 1);
        long then = x.most(0);
        x.night();
        d.due(13, "most(0), another day", x.most(0), then);
    }

    // "each SAYING of a VICTIM by one alone"
    private static void eachSayingByOneAlone() {
        KindWords x = Due.town("77,77,77;0");
        x.convict(0, 0, 1, 32);
        d.due(13, "most(0), one", x.most(0), 1);
        x.convict(0, 1, 1, 32);
        d.due(13, "most(0), of another victim", x.most(0), 2);
        d.due(13, "most(1), of another victim", x.most(1), 1);
        x.convict(0, 0, 1, 32);
        d.due(13, "most(0), two would say the same", x.most(0), 2);
        d.due(13, "most(1), two would say the same", x.most(1), 0);
        x.learn(2, 0);
        d.due(13, "most(0), one knows another", x.most(0), 3);
        d.due(13, "most(1), one knows another", x.most(1), 1);
    }

    // "UNKNOWN: victim, saying"
    private static void whoNumbers() {
        KindWords x = Due.town("77,77,77;0");
        x.convict(0, 0, 6, 63);
        x.convict(0, 2, 6, 63);
        d.refused(14, "who(-1, 0)", x.digest(), x.who(-1, 0), Due.UNKNOWN, x.digest());
        d.refused(14, "who(3, 0)", x.digest(), x.who(3, 0), Due.UNKNOWN, x.digest());
        d.refused(14, "who(0, -1)", x.digest(), x.who(0, -1), Due.UNKNOWN, x.digest());
        d.refused(14, "who(0, 6)", x.digest(), x.who(0, 6), Due.UNKNOWN, x.digest());
        d.refused(14, "who(3, 6)", x.digest(), x.who(3, 6), Due.UNKNOWN, x.digest());
        d.due(14, "who(0, 0)", x.who(0, 0), 0);
        d.due(14, "who(0, 5)", x.who(0, 5), 0);
        d.due(14, "who(2, 0)", x.who(2, 0), 1);
        d.due(14, "who(2, 5)", x.who(2, 5), 1);
    }

    // "UNKNOWN (a number names nothing)": there are no VICTIMS without a TOWN
    private static void whoWithoutTown() {
        KindWords x = new KindWords();
        d.refused(14, "who(0, 0)", x.digest(), x.who(0, 0), Due.UNKNOWN, x.digest());
        d.refused(14, "who(0, 6)", x.digest(), x.who(0, 6), Due.UNKNOWN, x.digest());
    }

    // "(NONE: nobody)": no CONVICTS, not TRUE, not known, USED
    private static void whoNobody() {
        KindWords x = Due.town("76,77,77;9");
        dueWho(x, 0, -1, -1, -1, -1, -1, -1);
        x.convict(2, 0, 9, 31);
        x.say(0, 1);
        dueWho(x, 0, -1, -1, 0, 0, 0, -1);
        dueWho(x, 1, -1, -1, -1, -1, -1, -1);
    }

    // "the first by numbers (SAYING by SAYING, nobody first)"
    private static void whoNobodyFirst() {
        for (int fine = 1; fine <= 9; fine++) {
            KindWords x = Due.town("77,77,77;0");
            x.convict(0, 2, fine, 63);
            for (int saying = 0; saying < 6; saying++) {
                d.due(14, "who(2, " + saying + "), fine " + fine, x.who(2, saying), saying >= 6 - fine ? 0 : Due.NONE);
            }
        }
    }

    // "the first by numbers": of like CONVICTS the lower number, each as often as he needs
    private static void whoByNumbers() {
        KindWords x = Due.town("77,77,77;0");
        for (int c = 0; c < 4; c++) {
            x.convict(0, 1, 1, 63);
        }
        dueWho(x, 1, -1, -1, 0, 1, 2, 3);
        KindWords y = Due.town("77,77,77;0");
        y.convict(0, 1, 2, 63);
        y.convict(3, 1, 1, 63);
        y.convict(0, 1, 9, 63);
        y.convict(0, 1, 9, 63);
        dueWho(y, 1, 0, 0, 1, 1, 2, 2);
    }

    // "of all ways to say MOST": a lower number gives way where MOST needs it
    private static void whoGivesWay() {
        KindWords x = Due.town("77,77,77;0");
        x.convict(0, 0, 1, 33);
        x.convict(0, 0, 1, 1);
        dueWho(x, 0, 1, -1, -1, -1, -1, 0);
        KindWords y = Due.town("77,77,77;0");
        y.convict(0, 0, 1, 33);
        y.convict(0, 0, 1, 32);
        dueWho(y, 0, 0, -1, -1, -1, -1, 1);
        KindWords z = Due.town("77,77,77;0");
        z.convict(0, 0, 2, 7);
        z.convict(0, 0, 2, 5);
        z.convict(0, 0, 1, 56);
        z.convict(0, 0, 2, 16);
        dueWho(z, 0, 0, 0, 1, -1, 3, 2);
    }

    // "WHO says each SAYING of a VICTIM": his own
    private static void whoOfEachVictimAlone() {
        KindWords x = Due.town("77,77,77;0");
        for (int v = 0; v < 3; v++) {
            x.convict(0, v, 6, 63);
        }
        for (int v = 0; v < 3; v++) {
            dueWho(x, v, v, v, v, v, v, v);
        }
    }
}
