/** A town where fines are paid in kind words; ../shared/DOC.md says what each call answers. */
public final class KindWords {
    public static final int NONE = -1, UNKNOWN = -101, OUTSIDE = -102, STATE = -103, FULL = -104;

    private static final int VICTIMS = 3;
    private static final int SAYINGS = 6;
    private static final int ALL_SAYINGS = 63;
    private static final int CONVICTS_AT_MOST = 4;
    private static final int TRIALS_AT_MOST = 8;
    private static final int LETTERS_AT_MOST = 12;
    private static final int LAST_LETTER = 126;
    private static final int FINE_AT_MOST = 9;
    private static final int DAYS_AT_MOST = 40;

    private static final int CONVICT = 0;
    private static final int POET = 1;
    private static final int FORGER = 2;
    private static final int MISER = 3;
    private static final int BARD = 4;

    // The last "what" that each of these calls knows.
    private static final int LAST_OF_VICTIM = 3;
    private static final int LAST_OF_ABOUT = 8;
    private static final int LAST_OF_MOST = 1;
    private static final int LAST_OF_TRUTHS = 2;
    private static final int LAST_OF_WEEKS = 2;
    private static final int LAST_OF_COUNT = 9;

    // The text of a town: a digit stands for the digits up to it, another sign for itself.
    private static final String FORM = "77,77,77;9";
    private static final int SHEETS_PLACE = 9;
    private static final int LETTERS_PER_VICTIM = 3;

    private final char[] page = new char[LETTERS_AT_MOST];
    private int letters;

    // All that calls work on is made here, once, so that no call makes an object.
    private final Town now = new Town();
    private final Town kept = new Town();
    private final Weeks supposed = new Weeks();
    private final Shares shares = new Shares();

    private boolean hasTown;
    private boolean hasImage;
    private int townsRead;

    public KindWords() {
    }

    // ---- the town

    public int letter(int code) {
        if (code < 1 || code > LAST_LETTER) {
            return OUTSIDE;
        }
        if (letters >= LETTERS_AT_MOST) {
            return FULL;
        }
        page[letters] = (char) code;
        letters++;
        return letters;
    }

    public int blank() {
        int had = letters;
        letters = 0;
        return had;
    }

    public int fault() {
        for (int place = 0; place < letters; place++) {
            if (!fits(place, page[place])) {
                return place;
            }
        }
        return letters;
    }

    public int town() {
        if (letters != FORM.length() || fault() != letters) {
            return STATE;
        }
        now.clear();
        for (int v = 0; v < VICTIMS; v++) {
            int place = LETTERS_PER_VICTIM * v;
            now.victims[v].truth = 8 * digitAt(place) + digitAt(place + 1);
        }
        now.sheets = digitAt(SHEETS_PLACE);
        letters = 0;
        hasTown = true;
        hasImage = false;
        townsRead++;
        return now.truthsOfAll();
    }

    public int victim(int victim, int what) {
        if (!isVictim(victim)) {
            return UNKNOWN;
        }
        if (what < 0 || what > LAST_OF_VICTIM) {
            return OUTSIDE;
        }
        switch (what) {
            case 0:
                return now.victims[victim].truth;
            case 1:
                return now.victims[victim].used;
            case 2:
                return now.convictsOf(victim);
            default:
                return now.finesOf(now.convictsOf(victim));
        }
    }

    // ---- convicts

    public int convict(int kind, int victim, int fine, int knows) {
        if (!isKind(kind) || fine < 1 || fine > FINE_AT_MOST || knows < 0 || knows > ALL_SAYINGS) {
            return OUTSIDE;
        }
        if (!isVictim(victim)) {
            return UNKNOWN;
        }
        if (now.convictCount >= CONVICTS_AT_MOST) {
            return FULL;
        }
        int number = now.convictCount;
        now.convicts[number].begin(kind, victim, fine, knows);
        now.convictCount++;
        return number;
    }

    public int about(int convict, int what) {
        if (!isConvict(convict)) {
            return UNKNOWN;
        }
        if (what < 0 || what > LAST_OF_ABOUT) {
            return OUTSIDE;
        }
        Convict one = now.convicts[convict];
        switch (what) {
            case 0:
                return one.kind;
            case 1:
                return one.victim;
            case 2:
                return one.fine;
            case 3:
                return one.knows;
            case 4:
                return now.leftTo(one);
            case 5:
                return one.mayToday;
            case 6:
                return one.counted;
            case 7:
                return now.daysFor(one);
            default:
                return now.findFor(one);
        }
    }

    public int as(int convict, int kind) {
        if (!isConvict(convict)) {
            return UNKNOWN;
        }
        if (!isKind(kind)) {
            return OUTSIDE;
        }
        return now.convicts[convict].isA(kind) ? convict : NONE;
    }

    public int say(int convict, int saying) {
        if (!isConvict(convict) || !isSaying(saying)) {
            return UNKNOWN;
        }
        Convict one = now.convicts[convict];
        if (one.hasPaid() || one.mayToday <= 0 || !one.knowsOf(saying)) {
            return STATE;
        }
        return now.hear(one, saying) ? 1 : 0;
    }

    public int learn(int convict, int saying) {
        if (!isConvict(convict) || !isSaying(saying)) {
            return UNKNOWN;
        }
        Convict one = now.convicts[convict];
        if (one.knowsOf(saying)) {
            return 0;
        }
        one.knows |= 1 << saying;
        return 1;
    }

    public int night() {
        if (!hasTown) {
            return STATE;
        }
        now.beginNextDay();
        return now.day;
    }

    // ---- what would be

    public int most(int what) {
        if (what < 0 || what > LAST_OF_MOST) {
            return OUTSIDE;
        }
        if (!hasTown) {
            return STATE;
        }
        int counting = shares.mostOfAll(now);
        if (what == 0) {
            return counting;
        }
        // Nobody says more than he needs, so all have paid just if none of these is missing.
        return counting == now.needsOfAll() ? 1 : 0;
    }

    public int who(int victim, int saying) {
        if (!isVictim(victim) || !isSaying(saying)) {
            return UNKNOWN;
        }
        return shares.sayerOf(now, victim, saying);
    }

    // ---- trials

    public int trial(int victim, int saying, boolean counts) {
        if (!isVictim(victim) || !isSaying(saying)) {
            return UNKNOWN;
        }
        if (now.trials >= TRIALS_AT_MOST) {
            return FULL;
        }
        now.victims[victim].tried(saying, counts);
        now.trials++;
        return now.trials;
    }

    public int forget() {
        int had = now.trials;
        now.forgetTrials();
        return had;
    }

    public int truths(int victim, int what) {
        if (!isVictim(victim)) {
            return UNKNOWN;
        }
        if (what < 0 || what > LAST_OF_TRUTHS) {
            return OUTSIDE;
        }
        Victim one = now.victims[victim];
        if (what == 0) {
            return one.possibleSets();
        }
        // The least set is that of the sayings that counted, and these alone are in all sets.
        return one.possibleSets() == 0 ? NONE : one.triedTrue;
    }

    public int attempt(int victim) {
        if (!isVictim(victim)) {
            return UNKNOWN;
        }
        return now.victims[victim].sayingToTry();
    }

    public int weeks(int days, int seed, int what) {
        if (days < 1 || days > DAYS_AT_MOST || seed < 0 || what < 0 || what > LAST_OF_WEEKS) {
            return OUTSIDE;
        }
        if (now.convictCount == 0) {
            return STATE;
        }
        supposed.run(now, days, seed);
        switch (what) {
            case 0:
                return supposed.counted;
            case 1:
                return supposed.town.paidCount();
            default:
                return supposed.seed;
        }
    }

    // ---- what is told of all

    public int image() {
        if (!hasTown) {
            return STATE;
        }
        kept.copy(now);
        hasImage = true;
        return now.day;
    }

    public int restore() {
        if (!hasImage) {
            return STATE;
        }
        now.copy(kept);
        return now.day;
    }

    public int count(int what) {
        if (what < 0 || what > LAST_OF_COUNT) {
            return OUTSIDE;
        }
        switch (what) {
            case 0:
                return now.truthsOfAll();
            case 1:
                return now.sheets;
            case 2:
                return now.convictCount;
            case 3:
                return now.paidCount();
            case 4:
                return now.finesOf(now.allConvicts());
            case 5:
                return now.usedOfAll();
            case 6:
                return now.day;
            case 7:
                return now.trials;
            case 8:
                return letters;
            default:
                return townsRead;
        }
    }

    public long digest() {
        long h = 883;
        if (hasTown) {
            for (int v = 0; v < VICTIMS; v++) {
                h = withVictim(h, v);
            }
            for (int what = 0; what <= LAST_OF_MOST; what++) {
                h = with(h, most(what));
            }
        }
        for (int c = 0; c < now.convictCount; c++) {
            for (int what = 0; what <= LAST_OF_ABOUT; what++) {
                h = with(h, about(c, what));
            }
        }
        for (int place = 0; place < letters; place++) {
            h = with(h, page[place]);
        }
        for (int what = 0; what <= LAST_OF_COUNT; what++) {
            h = with(h, count(what));
        }
        return h;
    }

    private long withVictim(long before, int victim) {
        long h = before;
        for (int what = 0; what <= LAST_OF_VICTIM; what++) {
            h = with(h, victim(victim, what));
        }
        for (int saying = 0; saying < SAYINGS; saying++) {
            h = with(h, who(victim, saying));
        }
        for (int what = 0; what <= LAST_OF_TRUTHS; what++) {
            h = with(h, truths(victim, what));
        }
        return with(h, attempt(victim));
    }

    private static long with(long h, int number) {
        return 31 * h + number;
    }

    private static boolean fits(int place, char letter) {
        if (place >= FORM.length()) {
            return false;
        }
        char form = FORM.charAt(place);
        boolean digit = form >= '0' && form <= '9';
        return digit ? letter >= '0' && letter <= form : letter == form;
    }

    private int digitAt(int place) {
        return page[place] - '0';
    }

    private boolean isVictim(int victim) {
        return hasTown && victim >= 0 && victim < VICTIMS;
    }

    private boolean isConvict(int convict) {
        return convict >= 0 && convict < now.convictCount;
    }

    private static boolean isSaying(int saying) {
        return saying >= 0 && saying < SAYINGS;
    }

    private static boolean isKind(int kind) {
        return kind >= CONVICT && kind <= BARD;
    }

    /** What is true and used of one, and what trials tell of it; sets of sayings are bits. */
    private static final class Victim {
        int truth;
        int used;
        int triedTrue;
        int triedFalse;

        void clear() {
            truth = 0;
            used = 0;
            forgetTrials();
        }

        void copy(Victim from) {
            truth = from.truth;
            used = from.used;
            triedTrue = from.triedTrue;
            triedFalse = from.triedFalse;
        }

        void forgetTrials() {
            triedTrue = 0;
            triedFalse = 0;
        }

        void tried(int saying, boolean counts) {
            if (counts) {
                triedTrue |= 1 << saying;
            } else {
                triedFalse |= 1 << saying;
            }
        }

        int trueAndNew() {
            return truth & ~used;
        }

        int possibleSets() {
            if ((triedTrue & triedFalse) != 0) {
                return 0;
            }
            return 1 << (SAYINGS - Integer.bitCount(triedTrue | triedFalse));
        }

        // A saying not tried halves the sets, one tried leaves all of them at worst; if all
        // are tried, they are alike, and the least of them is due.
        int sayingToTry() {
            if (possibleSets() == 0) {
                return NONE;
            }
            int tried = triedTrue | triedFalse;
            for (int saying = 0; saying < SAYINGS; saying++) {
                if ((tried & 1 << saying) == 0) {
                    return saying;
                }
            }
            return 0;
        }
    }

    private static final class Convict {
        int kind;
        int victim;
        int fine;
        int knows;
        int mayToday;
        int counted;

        void begin(int itsKind, int itsVictim, int itsFine, int itsKnowledge) {
            kind = itsKind;
            victim = itsVictim;
            fine = itsFine;
            knows = itsKnowledge;
            mayToday = mayEachDay();
            counted = 0;
        }

        void copy(Convict from) {
            kind = from.kind;
            victim = from.victim;
            fine = from.fine;
            knows = from.knows;
            mayToday = from.mayToday;
            counted = from.counted;
        }

        boolean isA(int asked) {
            return asked == CONVICT || asked == kind || asked == POET && kind == BARD;
        }

        int mayEachDay() {
            if (kind == BARD) {
                return 3;
            }
            return kind == POET ? 2 : 1;
        }

        boolean hasPaid() {
            return fine == 0;
        }

        boolean knowsOf(int saying) {
            return (knows & 1 << saying) != 0;
        }

        int needs() {
            if (kind != MISER || hasPaid()) {
                return fine;
            }
            return 2 * fine - counted % 2;
        }

        void pay() {
            counted++;
            if (kind != MISER || counted % 2 == 0) {
                fine--;
            }
        }
    }

    /** All that an image keeps. */
    private static final class Town {
        final Victim[] victims = new Victim[VICTIMS];
        final Convict[] convicts = new Convict[CONVICTS_AT_MOST];
        int convictCount;
        int sheets;
        int day;
        int trials;

        Town() {
            for (int v = 0; v < VICTIMS; v++) {
                victims[v] = new Victim();
            }
            for (int c = 0; c < CONVICTS_AT_MOST; c++) {
                convicts[c] = new Convict();
            }
        }

        void clear() {
            for (int v = 0; v < VICTIMS; v++) {
                victims[v].clear();
            }
            convictCount = 0;
            sheets = 0;
            day = 0;
            trials = 0;
        }

        void copy(Town from) {
            for (int v = 0; v < VICTIMS; v++) {
                victims[v].copy(from.victims[v]);
            }
            for (int c = 0; c < CONVICTS_AT_MOST; c++) {
                convicts[c].copy(from.convicts[c]);
            }
            convictCount = from.convictCount;
            sheets = from.sheets;
            day = from.day;
            trials = from.trials;
        }

        void forgetTrials() {
            for (int v = 0; v < VICTIMS; v++) {
                victims[v].forgetTrials();
            }
            trials = 0;
        }

        void beginNextDay() {
            day++;
            for (int c = 0; c < convictCount; c++) {
                convicts[c].mayToday = convicts[c].mayEachDay();
            }
        }

        boolean hear(Convict sayer, int saying) {
            sayer.mayToday--;
            Victim victim = victims[sayer.victim];
            int bit = 1 << saying;
            if ((victim.used & bit) != 0) {
                return false;
            }
            if ((victim.truth & bit) == 0) {
                if (sayer.kind != FORGER || sheets == 0) {
                    return false;
                }
                sheets--;
            }
            victim.used |= bit;
            sayer.pay();
            return true;
        }

        int leftTo(Convict one) {
            return one.knows & victims[one.victim].trueAndNew();
        }

        int daysFor(Convict one) {
            if (one.hasPaid()) {
                return 0;
            }
            int needs = one.needs();
            if (Integer.bitCount(leftTo(one)) < needs) {
                return NONE;
            }
            // Each day beyond this one brings a saying at least, and there are no more of them.
            int days = 1;
            int canSay = one.mayToday;
            while (canSay < needs && days <= SAYINGS) {
                canSay += one.mayEachDay();
                days++;
            }
            return days;
        }

        int findFor(Convict one) {
            int missing = one.needs() - Integer.bitCount(leftTo(one));
            if (missing <= 0) {
                return 0;
            }
            int toFind = victims[one.victim].trueAndNew() & ~one.knows;
            return missing <= Integer.bitCount(toFind) ? missing : NONE;
        }

        int allConvicts() {
            return (1 << convictCount) - 1;
        }

        int convictsOf(int victim) {
            int numbers = 0;
            for (int c = 0; c < convictCount; c++) {
                if (convicts[c].victim == victim) {
                    numbers |= 1 << c;
                }
            }
            return numbers;
        }

        int finesOf(int numbers) {
            int fines = 0;
            for (int c = 0; c < convictCount; c++) {
                if ((numbers & 1 << c) != 0) {
                    fines += convicts[c].fine;
                }
            }
            return fines;
        }

        int needsOfAll() {
            int needs = 0;
            for (int c = 0; c < convictCount; c++) {
                needs += convicts[c].needs();
            }
            return needs;
        }

        int paidCount() {
            int paid = 0;
            for (int c = 0; c < convictCount; c++) {
                if (convicts[c].hasPaid()) {
                    paid++;
                }
            }
            return paid;
        }

        int truthsOfAll() {
            int truths = 0;
            for (int v = 0; v < VICTIMS; v++) {
                truths += Integer.bitCount(victims[v].truth);
            }
            return truths;
        }

        int usedOfAll() {
            int used = 0;
            for (int v = 0; v < VICTIMS; v++) {
                used += Integer.bitCount(victims[v].used);
            }
            return used;
        }
    }

    /** Who would say what of one victim, if all together say as much that counts as they can. */
    private static final class Shares {
        private final int[] needs = new int[CONVICTS_AT_MOST];
        private final int[] left = new int[CONVICTS_AT_MOST];
        private int convictCount;

        int mostOfAll(Town town) {
            int most = 0;
            for (int v = 0; v < VICTIMS; v++) {
                take(town, v);
                most += mostAmong(ALL_SAYINGS);
            }
            return most;
        }

        // Goes up to the asked saying, each time to the first choice that still leads to the most.
        int sayerOf(Town town, int victim, int asked) {
            take(town, victim);
            int open = ALL_SAYINGS;
            int sayer = NONE;
            for (int saying = 0; saying <= asked; saying++) {
                int most = mostAmong(open);
                open &= ~(1 << saying);
                sayer = firstSayer(saying, open, most);
                if (sayer != NONE) {
                    needs[sayer]--;
                }
            }
            return sayer;
        }

        private void take(Town town, int victim) {
            convictCount = town.convictCount;
            for (int c = 0; c < convictCount; c++) {
                Convict one = town.convicts[c];
                needs[c] = one.needs();
                left[c] = one.victim == victim ? town.leftTo(one) : 0;
            }
        }

        private int firstSayer(int saying, int open, int most) {
            if (mostAmong(open) == most) {
                return NONE;
            }
            for (int c = 0; c < convictCount; c++) {
                if (needs[c] > 0 && (left[c] & 1 << saying) != 0) {
                    needs[c]--;
                    int withoutIt = mostAmong(open);
                    needs[c]++;
                    if (withoutIt + 1 == most) {
                        return c;
                    }
                }
            }
            return NONE;
        }

        // The most that can be shared out is the least that bounds it: the needs of some of the
        // convicts, and the sayings that are left to the others (the least cut of a flow).
        private int mostAmong(int open) {
            int least = SAYINGS;
            for (int some = 0; some < 1 << convictCount; some++) {
                int needed = 0;
                int leftToOthers = 0;
                for (int c = 0; c < convictCount; c++) {
                    if ((some & 1 << c) != 0) {
                        needed += needs[c];
                    } else {
                        leftToOthers |= left[c] & open;
                    }
                }
                least = Math.min(least, needed + Integer.bitCount(leftToOthers));
            }
            return least;
        }
    }

    /** Days to come, drawn by a seed, on a town of their own. */
    private static final class Weeks {
        final Town town = new Town();
        int seed;
        int counted;

        void run(Town from, int days, int firstSeed) {
            town.copy(from);
            seed = firstSeed;
            counted = 0;
            for (int d = 0; d < days; d++) {
                for (int c = 0; c < town.convictCount; c++) {
                    talk(town.convicts[c]);
                }
                town.beginNextDay();
            }
        }

        // A saying that he does not know is drawn in vain, but it is one of those that he may say.
        private void talk(Convict one) {
            for (int more = one.mayToday; more > 0 && !one.hasPaid(); more--) {
                int saying = draw();
                if (one.knowsOf(saying) && town.hear(one, saying)) {
                    counted++;
                }
            }
        }

        private int draw() {
            seed = (int) ((1103515245L * seed + 12345L) & 0x7fffffffL);
            return seed / 65536 % SAYINGS;
        }
    }
}
