/** Boundary cases of promises 7 to 9 and 11, 12; above each test stands the sentence that it holds. */
public final class EdgeConvictTest {
    private static final String ALL_TRUE = "77,77,77;9";

    private static final Due d = new Due();

    public static void main(String[] args) {
        convictKinds();
        convictFines();
        convictKnowledge();
        convictVictims();
        convictFourAndFive();
        convictFullWithPaidOnes();
        convictRefusalOrder();
        convictWithoutTown();
        aboutNumbers();
        aboutWhats();
        aboutRefusalOrder();
        leftEmptyAndFull();
        mayTodayOfAKindAndOfOneWhoHasPaid();
        countedAtFirstAndAtMost();
        daysOfOneWhoHasPaid();
        daysOfThisDay();
        daysWhenHeMaySayNoMore();
        daysNone();
        daysOfMisers();
        findNothingAndTooFew();
        findOfMisers();
        findOnlyTrueAndNewOnes();
        asEachKind();
        asRefused();
        learnFromNoneToAll();
        learnOfOneWhoHasPaid();
        learnRefused();
        nightWithoutTown();
        nightSavesNothing();
        nightOfNobody();
        d.end();
    }

    // "KINDS: 0 CONVICT, 1 POET, 2 FORGER, 3 MISER, 4 BARD"; "OUTSIDE: kind"
    private static void convictKinds() {
        KindWords x = Due.town(ALL_TRUE);
        d.refused(7, "kind -1", x.digest(), x.convict(-1, 0, 1, 0), Due.OUTSIDE, x.digest());
        d.due(7, "kind 0", x.convict(0, 0, 1, 0), 0);
        d.due(7, "kind 4", x.convict(4, 0, 1, 0), 1);
        d.refused(7, "kind 5", x.digest(), x.convict(5, 0, 1, 0), Due.OUTSIDE, x.digest());
        d.due(7, "about(0, 0)", x.about(0, 0), 0);
        d.due(7, "about(1, 0)", x.about(1, 0), 4);
    }

    // "a FINE (1 to 9)"; "OUTSIDE: .. fine"
    private static void convictFines() {
        KindWords x = Due.town(ALL_TRUE);
        d.refused(7, "fine 0", x.digest(), x.convict(0, 0, 0, 0), Due.OUTSIDE, x.digest());
        d.due(7, "fine 1", x.convict(0, 0, 1, 0), 0);
        d.due(7, "fine 9", x.convict(0, 0, 9, 0), 1);
        d.refused(7, "fine 10", x.digest(), x.convict(0, 0, 10, 0), Due.OUTSIDE, x.digest());
        d.due(7, "about(0, 2)", x.about(0, 2), 1);
        d.due(7, "about(1, 2)", x.about(1, 2), 9);
    }

    // "SAYINGS that he KNOWS of that one (bits, 0 to 63)"; "OUTSIDE: .. knows"
    private static void convictKnowledge() {
        KindWords x = Due.town(ALL_TRUE);
        d.refused(7, "knows -1", x.digest(), x.convict(0, 0, 1, -1), Due.OUTSIDE, x.digest());
        d.due(7, "knows 0", x.convict(0, 0, 1, 0), 0);
        d.due(7, "knows 63", x.convict(0, 0, 1, 63), 1);
        d.refused(7, "knows 64", x.digest(), x.convict(0, 0, 1, 64), Due.OUTSIDE, x.digest());
        d.due(7, "about(0, 3)", x.about(0, 3), 0);
        d.due(7, "about(1, 3)", x.about(1, 3), 63);
    }

    // "VICTIMS (0 to 2)"; "UNKNOWN: victim"
    private static void convictVictims() {
        KindWords x = Due.town(ALL_TRUE);
        d.refused(7, "victim -1", x.digest(), x.convict(0, -1, 1, 0), Due.UNKNOWN, x.digest());
        d.due(7, "victim 0", x.convict(0, 0, 1, 0), 0);
        d.due(7, "victim 2", x.convict(0, 2, 1, 0), 1);
        d.refused(7, "victim 3", x.digest(), x.convict(0, 3, 1, 0), Due.UNKNOWN, x.digest());
        d.due(7, "about(0, 1)", x.about(0, 1), 0);
        d.due(7, "about(1, 1)", x.about(1, 1), 2);
    }

    // "CONVICTS (4 at most, numbered)"; "FULL"
    private static void convictFourAndFive() {
        KindWords x = Due.town(ALL_TRUE);
        for (int c = 0; c < 4; c++) {
            d.due(7, "convict(..)", x.convict(0, c % 3, 1, 0), c);
        }
        d.refused(7, "a fifth", x.digest(), x.convict(0, 0, 1, 0), Due.FULL, x.digest());
        d.due(7, "about(3, 1)", x.about(3, 1), 0);
        d.due(7, "about(4, 0)", x.about(4, 0), Due.UNKNOWN);
        d.due(7, "count(2)", x.count(2), 4);
    }

    // "CONVICTS (4 at most, numbered)": who has PAID is still one of them
    private static void convictFullWithPaidOnes() {
        KindWords x = Due.town(ALL_TRUE);
        for (int c = 0; c < 4; c++) {
            x.convict(0, 0, 1, 1 << c);
            x.say(c, c);
        }
        d.due(7, "count(3)", x.count(3), 4);
        d.refused(7, "a fifth", x.digest(), x.convict(0, 0, 1, 0), Due.FULL, x.digest());
    }

    // "of several the first as told by each call": OUTSIDE, UNKNOWN, FULL
    private static void convictRefusalOrder() {
        KindWords x = Due.town(ALL_TRUE);
        for (int have = 0; have <= 4; have++) {
            d.due(7, "kind and victim", x.convict(5, 3, 1, 0), Due.OUTSIDE);
            d.due(7, "fine and victim", x.convict(0, 3, 10, 0), Due.OUTSIDE);
            d.due(7, "knows and victim", x.convict(0, 3, 1, 64), Due.OUTSIDE);
            d.due(7, "victim, " + have + " are there", x.convict(0, 3, 1, 0), Due.UNKNOWN);
            d.due(7, "kind, " + have + " are there", x.convict(-1, 0, 1, 0), Due.OUTSIDE);
            d.due(7, "fine, " + have + " are there", x.convict(0, 0, 0, 0), Due.OUTSIDE);
            d.due(7, "knows, " + have + " are there", x.convict(0, 0, 1, -1), Due.OUTSIDE);
            d.due(7, "all is well, " + have + " are there", x.convict(0, 0, 1, 0), have < 4 ? have : Due.FULL);
        }
    }

    // "UNKNOWN (a number names nothing)": there are no VICTIMS without a TOWN
    private static void convictWithoutTown() {
        KindWords x = new KindWords();
        for (int v = 0; v < 3; v++) {
            d.refused(7, "victim " + v, x.digest(), x.convict(0, v, 1, 0), Due.UNKNOWN, x.digest());
            d.refused(7, "kind 5", x.digest(), x.convict(5, v, 1, 0), Due.OUTSIDE, x.digest());
        }
        d.due(7, "count(2)", x.count(2), 0);
    }

    // "UNKNOWN": the number of a CONVICT
    private static void aboutNumbers() {
        KindWords x = Due.town(ALL_TRUE);
        d.refused(8, "about(0, 0), no convicts", x.digest(), x.about(0, 0), Due.UNKNOWN, x.digest());
        for (int have = 1; have <= 4; have++) {
            x.convict(have, 0, 1, 0);
            d.due(8, "about(-1, 0)", x.about(-1, 0), Due.UNKNOWN);
            d.due(8, "about(0, 0)", x.about(0, 0), 1);
            d.due(8, "about of the last", x.about(have - 1, 0), have);
            d.due(8, "about of the next", x.about(have, 0), Due.UNKNOWN);
        }
    }

    // "what = 0 KIND .. 8 FIND"; "OUTSIDE"
    private static void aboutWhats() {
        KindWords x = Due.town(ALL_TRUE);
        x.convict(3, 0, 3, 0);
        d.refused(8, "about(0, -1)", x.digest(), x.about(0, -1), Due.OUTSIDE, x.digest());
        d.due(8, "about(0, 0)", x.about(0, 0), 3);
        d.due(8, "about(0, 8)", x.about(0, 8), 6);
        d.refused(8, "about(0, 9)", x.digest(), x.about(0, 9), Due.OUTSIDE, x.digest());
    }

    // "of several the first as told by each call": UNKNOWN, OUTSIDE
    private static void aboutRefusalOrder() {
        KindWords x = Due.town(ALL_TRUE);
        x.convict(3, 0, 3, 0);
        for (int c : new int[] {-1, 1}) {
            d.due(8, "about(" + c + ", -1)", x.about(c, -1), Due.UNKNOWN);
            d.due(8, "about(" + c + ", 9)", x.about(c, 9), Due.UNKNOWN);
        }
        KindWords y = new KindWords();
        d.due(8, "about(0, 9), no town", y.about(0, 9), Due.UNKNOWN);
    }

    // "LEFT to one: those that he KNOWS, not USED, TRUE."
    private static void leftEmptyAndFull() {
        KindWords x = Due.town("77,00,52;9");
        x.convict(4, 0, 9, 63);
        x.convict(2, 1, 9, 63);
        x.convict(0, 0, 9, 0);
        x.convict(0, 2, 9, 21);
        d.due(8, "about(0, 4), all", x.about(0, 4), 63);
        d.due(8, "about(1, 4), none is true, sheets do not matter", x.about(1, 4), 0);
        d.due(8, "about(2, 4), he knows none", x.about(2, 4), 0);
        d.due(8, "about(3, 4), he knows just the others", x.about(3, 4), 0);
        for (int saying = 0; saying < 6; saying++) {
            x.say(0, saying);
            d.due(8, "about(0, 4), those are used", x.about(0, 4), 63 >> saying + 1 << saying + 1);
            if (saying == 2) {
                x.night();
            }
        }
        d.due(8, "about(0, 4), he may say no more today, all are used", x.about(0, 4), 0);
    }

    // "On a DAY a CONVICT may say one SAYING, a POET two, a BARD three; others one."
    // "how many he may say today yet (who has PAID, too)"
    private static void mayTodayOfAKindAndOfOneWhoHasPaid() {
        int[] perDay = {1, 2, 1, 1, 3};
        for (int kind = 0; kind < 5; kind++) {
            KindWords x = Due.town("00,77,77;0");
            x.convict(kind, 0, 9, 1);
            for (int more = perDay[kind]; more >= 0; more--) {
                d.due(8, "about(0, 5) of kind " + kind, x.about(0, 5), more);
                x.say(0, 0);
            }
            d.due(8, "about(0, 5) of kind " + kind + ", no fewer", x.about(0, 5), 0);
        }
        KindWords y = Due.town(ALL_TRUE);
        y.convict(4, 0, 1, 63);
        y.convict(0, 0, 1, 63);
        y.say(0, 0);
        y.say(1, 1);
        d.due(8, "about(0, 5), paid by the first of three", y.about(0, 5), 2);
        d.due(8, "about(1, 5), paid by the only one", y.about(1, 5), 0);
        y.night();
        d.due(8, "about(0, 5), paid, the next day", y.about(0, 5), 3);
        d.due(8, "about(1, 5), paid, the next day", y.about(1, 5), 1);
    }

    // "6 how many of his COUNTED"
    private static void countedAtFirstAndAtMost() {
        KindWords x = Due.town("77,00,00;0");
        x.convict(4, 0, 9, 63);
        x.convict(1, 1, 9, 63);
        d.due(8, "about(0, 6), at first", x.about(0, 6), 0);
        for (int saying = 0; saying < 6; saying++) {
            x.say(0, saying);
            x.say(1, saying);
            x.night();
        }
        d.due(8, "about(0, 6), all six", x.about(0, 6), 6);
        d.due(8, "about(0, 2), all six", x.about(0, 2), 3);
        d.due(8, "about(1, 6), none counted", x.about(1, 6), 0);
        d.due(8, "about(1, 2), none counted", x.about(1, 2), 9);
        x.say(0, 0);
        d.due(8, "about(0, 6), a used one does not count", x.about(0, 6), 6);
    }

    // "DAYS for one alone: .. (0: he has)"
    private static void daysOfOneWhoHasPaid() {
        KindWords x = Due.town(ALL_TRUE);
        x.convict(0, 0, 1, 1);
        d.due(8, "about(0, 7), he has not", x.about(0, 7), 1);
        x.say(0, 0);
        d.due(8, "about(0, 7), he has", x.about(0, 7), 0);
        x.night();
        d.due(8, "about(0, 7), he has, the next day", x.about(0, 7), 0);
    }

    // "by how few DAYS (this one counts ..": as many as he may say, and one more
    private static void daysOfThisDay() {
        int[][] days = {{1, 2, 3, 4, 5, 6}, {1, 1, 2, 2, 3, 3}, {1, 2, 3, 4, 5, 6}, {2, 4, 6, -1, -1, -1},
            {1, 1, 1, 2, 2, 2}};
        for (int kind = 0; kind < 5; kind++) {
            for (int fine = 1; fine <= 6; fine++) {
                KindWords x = Due.town("77,77,77;0");
                x.convict(kind, 0, fine, 63);
                d.due(8, "about(0, 7), kind " + kind + ", fine " + fine, x.about(0, 7), days[kind][fine - 1]);
            }
        }
    }

    // "this one counts, even if he may say no more today"
    private static void daysWhenHeMaySayNoMore() {
        int[] perDay = {1, 2, 1, 1, 3};
        for (int kind : new int[] {0, 1, 2, 4}) {
            KindWords x = Due.town("76,77,77;0");
            x.convict(kind, 0, 1, 3);
            for (int n = 1; n <= perDay[kind]; n++) {
                d.due(8, "about(0, 7), kind " + kind + ", some more today", x.about(0, 7), 1);
                x.say(0, 0);
            }
            d.due(8, "about(0, 7), kind " + kind + ", no more today", x.about(0, 7), 2);
            x.night();
            d.due(8, "about(0, 7), kind " + kind + ", tomorrow", x.about(0, 7), 1);
        }
        KindWords y = Due.town("76,77,77;0");
        y.convict(4, 0, 5, 63);
        y.say(0, 0);
        y.say(0, 0);
        d.due(8, "about(0, 7), one today, three, one", y.about(0, 7), 3);
        y.say(0, 0);
        d.due(8, "about(0, 7), none today, three, two", y.about(0, 7), 3);
        KindWords z = Due.town("76,77,77;0");
        z.convict(0, 0, 5, 63);
        z.say(0, 0);
        d.due(8, "about(0, 7), none today, five by one", z.about(0, 7), 6);
    }

    // "none": those LEFT to him are too few, by one and by all
    private static void daysNone() {
        for (int fine = 1; fine <= 9; fine++) {
            for (int left = 0; left <= 6; left++) {
                KindWords x = Due.town("77,77,77;9");
                x.convict(0, 0, fine, (1 << left) - 1);
                int want = left < fine ? Due.NONE : fine;
                d.due(8, "about(0, 7), fine " + fine + ", left " + left, x.about(0, 7), want);
            }
        }
        KindWords y = Due.town("00,77,77;9");
        y.convict(2, 0, 1, 63);
        d.due(8, "about(0, 7), a forger pays by sheets, not by those left", y.about(0, 7), Due.NONE);
    }

    // "of a MISER only each second one that COUNTS makes it less": twice the FINE, one less behind a first
    private static void daysOfMisers() {
        KindWords x = Due.town("77,77,77;0");
        x.convict(3, 0, 3, 63);
        x.convict(3, 1, 3, 31);
        d.due(8, "about(0, 7), six of six", x.about(0, 7), 6);
        d.due(8, "about(1, 7), six of five", x.about(1, 7), Due.NONE);
        int[] days = {6, 5, 4, 3, 2, 0};
        for (int saying = 0; saying < 6; saying++) {
            x.say(0, saying);
            d.due(8, "about(0, 7), said today", x.about(0, 7), days[saying]);
            x.night();
        }
    }

    // "FIND ..: how few SAYINGS more, TRUE, not USED, that he does not KNOW, he must KNOW", "none: there are too few"
    private static void findNothingAndTooFew() {
        for (int fine = 1; fine <= 9; fine++) {
            for (int left = 0; left <= 6; left++) {
                KindWords x = Due.town("77,77,77;9");
                x.convict(0, 0, fine, (1 << left) - 1);
                int want = fine > 6 ? Due.NONE : Math.max(0, fine - left);
                d.due(8, "about(0, 8), fine " + fine + ", left " + left, x.about(0, 8), want);
            }
        }
        KindWords y = Due.town("07,77,77;9");
        y.convict(0, 0, 3, 0);
        y.convict(0, 0, 4, 0);
        d.due(8, "about(0, 8), three of three", y.about(0, 8), 3);
        d.due(8, "about(1, 8), four of three", y.about(1, 8), Due.NONE);
        y.convict(0, 1, 1, 1);
        y.say(2, 0);
        d.due(8, "about(2, 8), he has paid", y.about(2, 8), 0);
    }

    // FIND of a MISER: enough is twice his FINE, one less behind a first
    private static void findOfMisers() {
        KindWords x = Due.town("77,77,77;9");
        x.convict(3, 0, 3, 1);
        x.convict(3, 0, 4, 63);
        d.due(8, "about(0, 8), six but one", x.about(0, 8), 5);
        d.due(8, "about(1, 8), eight of six", x.about(1, 8), Due.NONE);
        x.say(0, 0);
        d.due(8, "about(0, 8), five, he knows none that is new", x.about(0, 8), 5);
        x.say(1, 1);
        d.due(8, "about(0, 8), five of four", x.about(0, 8), Due.NONE);
    }

    // "TRUE, not USED, that he does not KNOW"
    private static void findOnlyTrueAndNewOnes() {
        KindWords x = Due.town("07,77,77;9");
        x.convict(0, 0, 2, 57);
        x.convict(0, 0, 1, 2);
        d.due(8, "about(0, 8), one of two", x.about(0, 8), 1);
        x.say(1, 1);
        d.due(8, "about(0, 8), one of one, the other is used", x.about(0, 8), 1);
        x.learn(0, 1);
        d.due(8, "about(0, 8), a used one learned", x.about(0, 8), 1);
        x.learn(0, 2);
        d.due(8, "about(0, 8), the last one learned", x.about(0, 8), 0);
    }

    // "All are CONVICTS; a BARD is a POET, too."; "NONE: he is none such (the cast fails)"
    private static void asEachKind() {
        String[] kinds = {"0", "01", "02", "03", "014"};
        for (int c = 0; c < 4; c++) {
            for (int kind = 0; kind < 5; kind++) {
                KindWords x = Due.town(ALL_TRUE);
                for (int ahead = 0; ahead < c; ahead++) {
                    x.convict((kind + 1) % 5, 0, 1, 0);
                }
                x.convict(kind, 0, 1, 0);
                for (int asked = 0; asked < 5; asked++) {
                    boolean such = kinds[kind].indexOf('0' + asked) >= 0;
                    d.due(9, "number " + c + ", kind " + kind + " as " + asked, x.as(c, asked), such ? c : Due.NONE);
                }
            }
        }
    }

    // "UNKNOWN; OUTSIDE"
    private static void asRefused() {
        KindWords x = Due.town(ALL_TRUE);
        d.due(9, "as(0, 0), no convicts", x.as(0, 0), Due.UNKNOWN);
        x.convict(4, 0, 1, 0);
        d.refused(9, "as(-1, 0)", x.digest(), x.as(-1, 0), Due.UNKNOWN, x.digest());
        d.refused(9, "as(1, 0)", x.digest(), x.as(1, 0), Due.UNKNOWN, x.digest());
        d.refused(9, "as(0, -1)", x.digest(), x.as(0, -1), Due.OUTSIDE, x.digest());
        d.due(9, "as(0, 0)", x.as(0, 0), 0);
        d.due(9, "as(0, 4)", x.as(0, 4), 0);
        d.refused(9, "as(0, 5)", x.digest(), x.as(0, 5), Due.OUTSIDE, x.digest());
        for (int c : new int[] {-1, 1}) {
            d.due(9, "as(" + c + ", -1)", x.as(c, -1), Due.UNKNOWN);
            d.due(9, "as(" + c + ", 5)", x.as(c, 5), Due.UNKNOWN);
        }
    }

    // "He gets to KNOW a SAYING: whether he did not (1, 0)."
    private static void learnFromNoneToAll() {
        KindWords x = Due.town(ALL_TRUE);
        x.convict(0, 0, 1, 0);
        x.convict(0, 0, 1, 63);
        for (int saying = 0; saying < 6; saying++) {
            d.due(11, "learn(0, " + saying + ")", x.learn(0, saying), 1);
            d.due(11, "about(0, 3)", x.about(0, 3), (2 << saying) - 1);
            long before = x.digest();
            d.due(11, "learn(0, " + saying + "), known", x.learn(0, saying), 0);
            d.due(11, "learn(1, " + saying + "), who knows all", x.learn(1, saying), 0);
            d.due(11, "digest(), nothing was new", x.digest(), before);
        }
    }

    // learn() is refused for no STATE: he may have PAID, and may say no more today
    private static void learnOfOneWhoHasPaid() {
        KindWords x = Due.town(ALL_TRUE);
        x.convict(0, 0, 1, 1);
        x.say(0, 0);
        d.due(11, "learn(0, 5), paid, no more today", x.learn(0, 5), 1);
        d.due(11, "about(0, 3)", x.about(0, 3), 33);
        d.due(11, "about(0, 5), it is not said", x.about(0, 5), 0);
    }

    // "UNKNOWN: convict, saying"
    private static void learnRefused() {
        KindWords x = Due.town(ALL_TRUE);
        d.refused(11, "learn(0, 0), no convicts", x.digest(), x.learn(0, 0), Due.UNKNOWN, x.digest());
        x.convict(0, 0, 1, 0);
        d.refused(11, "learn(-1, 0)", x.digest(), x.learn(-1, 0), Due.UNKNOWN, x.digest());
        d.refused(11, "learn(1, 0)", x.digest(), x.learn(1, 0), Due.UNKNOWN, x.digest());
        d.refused(11, "learn(0, -1)", x.digest(), x.learn(0, -1), Due.UNKNOWN, x.digest());
        d.refused(11, "learn(0, 6)", x.digest(), x.learn(0, 6), Due.UNKNOWN, x.digest());
        d.refused(11, "learn(0, 32)", x.digest(), x.learn(0, 32), Due.UNKNOWN, x.digest());
        d.due(11, "learn(0, 0)", x.learn(0, 0), 1);
        d.due(11, "learn(0, 5)", x.learn(0, 5), 1);
    }

    // "STATE: no TOWN"
    private static void nightWithoutTown() {
        KindWords x = new KindWords();
        d.refused(12, "night()", x.digest(), x.night(), Due.STATE, x.digest());
        d.due(12, "count(6)", x.count(6), 0);
        Due.read(x, ALL_TRUE);
        d.due(12, "night(), the first", x.night(), 1);
    }

    // "the next DAY begins; each may say as many as at first"
    private static void nightSavesNothing() {
        int[] perDay = {1, 2, 1, 1, 3};
        for (int kind = 0; kind < 5; kind++) {
            KindWords x = Due.town("00,00,00;0");
            x.convict(kind, 0, 9, 1);
            x.night();
            d.due(12, "about(0, 5), none said, kind " + kind, x.about(0, 5), perDay[kind]);
            x.say(0, 0);
            x.night();
            d.due(12, "about(0, 5), one said, kind " + kind, x.about(0, 5), perDay[kind]);
            for (int n = 0; n < perDay[kind]; n++) {
                x.say(0, 0);
            }
            d.due(12, "about(0, 5), all said, kind " + kind, x.about(0, 5), 0);
            d.due(12, "night()", x.night(), 3);
            d.due(12, "about(0, 5), all said, the next day, kind " + kind, x.about(0, 5), perDay[kind]);
        }
    }

    // "A NIGHT: the number of the DAY.": it needs no CONVICTS
    private static void nightOfNobody() {
        KindWords x = Due.town(ALL_TRUE);
        for (int day = 1; day <= 3; day++) {
            d.due(12, "night()", x.night(), day);
            d.due(12, "count(6)", x.count(6), day);
        }
    }
}
