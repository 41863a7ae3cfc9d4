import java.util.ArrayList;
import java.util.List;

/**
 * The document again, in another way: sets as rows of booleans, TRIALS as a list, MOST and WHO by
 * all ways there are. It is slow; ModelTest and MostTest hold KindWords against it.
 */
final class Model {
    private static final int NONE = -1, UNKNOWN = -101, OUTSIDE = -102, STATE = -103, FULL = -104;

    private static final class Man {
        int kind, victim, fine, may, counted;
        boolean[] knows = new boolean[6];

        Man twin() {
            Man m = new Man();
            m.kind = kind;
            m.victim = victim;
            m.fine = fine;
            m.may = may;
            m.counted = counted;
            m.knows = knows.clone();
            return m;
        }

        int perDay() {
            return new int[] {1, 2, 1, 1, 3}[kind];
        }

        // How many more must count: said one by one until the fine is 0.
        int need() {
            Man m = twin();
            int said = 0;
            while (m.fine > 0) {
                m.counts();
                said++;
            }
            return said;
        }

        void counts() {
            counted++;
            boolean second = counted == counted / 2 * 2;
            fine -= kind == 3 && !second ? 0 : 1;
        }
    }

    private record Trial(int victim, int saying, boolean counts) {
    }

    private static final class All {
        boolean[][] truth = new boolean[3][6];
        boolean[][] used = new boolean[3][6];
        List<Man> men = new ArrayList<>();
        List<Trial> trials = new ArrayList<>();
        int sheets, day;

        All twin() {
            All a = new All();
            for (int v = 0; v < 3; v++) {
                a.truth[v] = truth[v].clone();
                a.used[v] = used[v].clone();
            }
            for (Man m : men) {
                a.men.add(m.twin());
            }
            a.trials.addAll(trials);
            a.sheets = sheets;
            a.day = day;
            return a;
        }

        boolean say(Man m, int s) {
            m.may--;
            if (used[m.victim][s]) {
                return false;
            }
            boolean forged = !truth[m.victim][s];
            if (forged && (m.kind != 2 || sheets < 1)) {
                return false;
            }
            if (forged) {
                sheets--;
            }
            used[m.victim][s] = true;
            m.counts();
            return true;
        }

        void night() {
            day++;
            men.forEach(m -> m.may = m.perDay());
        }

        boolean left(Man m, int s) {
            return m.knows[s] && truth[m.victim][s] && !used[m.victim][s];
        }
    }

    private String page = "";
    private All all;
    private All image;
    private int read;

    private static int bits(boolean[] set) {
        int sum = 0;
        for (int s = 0; s < 6; s++) {
            sum += set[s] ? (int) Math.pow(2, s) : 0;
        }
        return sum;
    }

    private static int size(boolean[] set) {
        int n = 0;
        for (boolean b : set) {
            n += b ? 1 : 0;
        }
        return n;
    }

    private boolean noVictim(int v) {
        return all == null || v < 0 || v > 2;
    }

    private boolean noMan(int c) {
        return all == null || c < 0 || c >= all.men.size();
    }

    private static boolean noSaying(int s) {
        return s < 0 || s > 5;
    }

    private boolean[] leftOf(Man m) {
        boolean[] left = new boolean[6];
        for (int s = 0; s < 6; s++) {
            left[s] = all.left(m, s);
        }
        return left;
    }

    int letter(int code) {
        if (code < 1 || code > 126) {
            return OUTSIDE;
        }
        if (page.length() == 12) {
            return FULL;
        }
        page += (char) code;
        return page.length();
    }

    int blank() {
        int n = page.length();
        page = "";
        return n;
    }

    private static boolean startsTown(String text) {
        String some = "00,00,00;0";
        return text.length() <= 10
            && (text + some.substring(text.length())).matches("[0-7]{2},[0-7]{2},[0-7]{2};[0-9]");
    }

    int fault() {
        int n = 0;
        while (n < page.length() && startsTown(page.substring(0, n + 1))) {
            n++;
        }
        return n;
    }

    int town() {
        if (!page.matches("[0-7]{2},[0-7]{2},[0-7]{2};[0-9]")) {
            return STATE;
        }
        all = new All();
        image = null;
        int n = 0;
        for (int v = 0; v < 3; v++) {
            int set = Integer.parseInt(page.substring(3 * v, 3 * v + 2), 8);
            for (int s = 0; s < 6; s++) {
                all.truth[v][s] = (set >> s) % 2 == 1;
            }
            n += size(all.truth[v]);
        }
        all.sheets = Integer.parseInt(page.substring(9));
        page = "";
        read++;
        return n;
    }

    int victim(int victim, int what) {
        if (noVictim(victim)) {
            return UNKNOWN;
        }
        if (what == 0) {
            return bits(all.truth[victim]);
        }
        if (what == 1) {
            return bits(all.used[victim]);
        }
        if (what != 2 && what != 3) {
            return OUTSIDE;
        }
        int numbers = 0;
        int fines = 0;
        for (int c = 0; c < all.men.size(); c++) {
            if (all.men.get(c).victim == victim) {
                numbers += 1 << c;
                fines += all.men.get(c).fine;
            }
        }
        return what == 2 ? numbers : fines;
    }

    int convict(int kind, int victim, int fine, int knows) {
        if (kind < 0 || kind > 4 || fine < 1 || fine > 9 || knows < 0 || knows > 63) {
            return OUTSIDE;
        }
        if (noVictim(victim)) {
            return UNKNOWN;
        }
        if (all.men.size() == 4) {
            return FULL;
        }
        Man m = new Man();
        m.kind = kind;
        m.victim = victim;
        m.fine = fine;
        m.may = m.perDay();
        for (int s = 0; s < 6; s++) {
            m.knows[s] = (knows >> s) % 2 == 1;
        }
        all.men.add(m);
        return all.men.size() - 1;
    }

    int about(int convict, int what) {
        if (noMan(convict)) {
            return UNKNOWN;
        }
        Man m = all.men.get(convict);
        return switch (what) {
            case 0 -> m.kind;
            case 1 -> m.victim;
            case 2 -> m.fine;
            case 3 -> bits(m.knows);
            case 4 -> bits(leftOf(m));
            case 5 -> m.may;
            case 6 -> m.counted;
            case 7 -> days(convict);
            case 8 -> find(convict);
            default -> OUTSIDE;
        };
    }

    // Played: alone, he says what is left to him day by day.
    private int days(int convict) {
        All a = all.twin();
        Man m = a.men.get(convict);
        for (int days = 0; days < 30; days++) {
            if (m.fine == 0) {
                return days;
            }
            for (int s = 0; s < 6; s++) {
                if (a.left(m, s) && m.may > 0 && m.fine > 0) {
                    a.say(m, s);
                }
            }
            a.night();
        }
        return NONE;
    }

    // Learned one by one until they are enough.
    private int find(int convict) {
        Man m = all.men.get(convict);
        boolean[] knew = m.knows.clone();
        int learned = 0;
        for (int s = 0; s < 6 && size(leftOf(m)) < m.need(); s++) {
            if (!m.knows[s] && all.truth[m.victim][s] && !all.used[m.victim][s]) {
                m.knows[s] = true;
                learned++;
            }
        }
        boolean enough = size(leftOf(m)) >= m.need();
        m.knows = knew;
        return enough ? learned : NONE;
    }

    int as(int convict, int kind) {
        if (noMan(convict)) {
            return UNKNOWN;
        }
        if (kind < 0 || kind > 4) {
            return OUTSIDE;
        }
        String[] kinds = {"0", "01", "02", "03", "014"};
        return kinds[all.men.get(convict).kind].contains("" + kind) ? convict : NONE;
    }

    int say(int convict, int saying) {
        if (noMan(convict) || noSaying(saying)) {
            return UNKNOWN;
        }
        Man m = all.men.get(convict);
        if (m.fine == 0 || m.may == 0 || !m.knows[saying]) {
            return STATE;
        }
        return all.say(m, saying) ? 1 : 0;
    }

    int learn(int convict, int saying) {
        if (noMan(convict) || noSaying(saying)) {
            return UNKNOWN;
        }
        Man m = all.men.get(convict);
        int fresh = m.knows[saying] ? 0 : 1;
        m.knows[saying] = true;
        return fresh;
    }

    int night() {
        if (all == null) {
            return STATE;
        }
        all.night();
        return all.day;
    }

    /** All ways for one victim, in order, nobody first: the first of those that say the most. */
    private int[] best(int victim) {
        int[] needs = new int[all.men.size()];
        for (int c = 0; c < needs.length; c++) {
            needs[c] = all.men.get(c).victim == victim ? all.men.get(c).need() : 0;
        }
        int[] best = new int[7];
        best[6] = -1;
        ways(victim, 0, 0, needs, new int[6], best);
        return best;
    }

    private void ways(int victim, int s, int said, int[] needs, int[] way, int[] best) {
        if (s == 6) {
            if (said > best[6]) {
                System.arraycopy(way, 0, best, 0, 6);
                best[6] = said;
            }
            return;
        }
        way[s] = NONE;
        ways(victim, s + 1, said, needs, way, best);
        for (int c = 0; c < needs.length; c++) {
            if (needs[c] > 0 && all.left(all.men.get(c), s)) {
                needs[c]--;
                way[s] = c;
                ways(victim, s + 1, said + 1, needs, way, best);
                needs[c]++;
            }
        }
    }

    int most(int what) {
        if (what != 0 && what != 1) {
            return OUTSIDE;
        }
        if (all == null) {
            return STATE;
        }
        int most = 0;
        All a = all.twin();
        for (int v = 0; v < 3; v++) {
            int[] way = best(v);
            most += way[6];
            for (int s = 0; s < 6; s++) {
                if (way[s] != NONE) {
                    a.say(a.men.get(way[s]), s);
                }
            }
        }
        return what == 0 ? most : a.men.stream().allMatch(m -> m.fine == 0) ? 1 : 0;
    }

    int who(int victim, int saying) {
        return noVictim(victim) || noSaying(saying) ? UNKNOWN : best(victim)[saying];
    }

    int trial(int victim, int saying, boolean counts) {
        if (noVictim(victim) || noSaying(saying)) {
            return UNKNOWN;
        }
        if (all.trials.size() == 8) {
            return FULL;
        }
        all.trials.add(new Trial(victim, saying, counts));
        return all.trials.size();
    }

    int forget() {
        if (all == null) {
            return 0;
        }
        int n = all.trials.size();
        all.trials.clear();
        return n;
    }

    private List<Integer> sets(int victim) {
        List<Integer> sets = new ArrayList<>();
        for (int set = 0; set < 64; set++) {
            boolean can = true;
            for (Trial t : all.trials) {
                can &= t.victim != victim || (set >> t.saying) % 2 == 1 == t.counts;
            }
            if (can) {
                sets.add(set);
            }
        }
        return sets;
    }

    int truths(int victim, int what) {
        if (noVictim(victim)) {
            return UNKNOWN;
        }
        if (what < 0 || what > 2) {
            return OUTSIDE;
        }
        List<Integer> sets = sets(victim);
        if (what == 0) {
            return sets.size();
        }
        if (sets.isEmpty()) {
            return NONE;
        }
        return what == 1 ? sets.get(0) : sets.stream().reduce(63, (a, b) -> a & b);
    }

    int attempt(int victim) {
        if (noVictim(victim)) {
            return UNKNOWN;
        }
        List<Integer> sets = sets(victim);
        int fewest = 65;
        int best = NONE;
        for (int s = 0; s < 6 && !sets.isEmpty(); s++) {
            int with = 0;
            for (int set : sets) {
                with += (set >> s) % 2;
            }
            int worst = Math.max(with, sets.size() - with);
            if (worst < fewest) {
                fewest = worst;
                best = s;
            }
        }
        return best;
    }

    int weeks(int days, int seed, int what) {
        if (days < 1 || days > 40 || seed < 0 || what < 0 || what > 2) {
            return OUTSIDE;
        }
        if (all == null || all.men.isEmpty()) {
            return STATE;
        }
        All a = all.twin();
        long drawn = seed;
        int counted = 0;
        for (int day = 0; day < days; day++) {
            for (Man m : a.men) {
                while (m.fine > 0 && m.may > 0) {
                    drawn = (1103515245L * drawn + 12345L) % 2147483648L;
                    int saying = (int) (drawn / 65536 % 6);
                    if (m.knows[saying]) {
                        counted += a.say(m, saying) ? 1 : 0;
                    } else {
                        m.may--;
                    }
                }
            }
            a.night();
        }
        int paid = (int) a.men.stream().filter(m -> m.fine == 0).count();
        return new int[] {counted, paid, (int) drawn}[what];
    }

    int image() {
        if (all == null) {
            return STATE;
        }
        image = all.twin();
        return all.day;
    }

    int restore() {
        if (image == null) {
            return STATE;
        }
        all = image.twin();
        return all.day;
    }

    int count(int what) {
        All a = all == null ? new All() : all;
        return switch (what) {
            case 0 -> size(a.truth[0]) + size(a.truth[1]) + size(a.truth[2]);
            case 1 -> a.sheets;
            case 2 -> a.men.size();
            case 3 -> (int) a.men.stream().filter(m -> m.fine == 0).count();
            case 4 -> a.men.stream().mapToInt(m -> m.fine).sum();
            case 5 -> size(a.used[0]) + size(a.used[1]) + size(a.used[2]);
            case 6 -> a.day;
            case 7 -> a.trials.size();
            case 8 -> page.length();
            case 9 -> read;
            default -> OUTSIDE;
        };
    }

    long digest() {
        List<Integer> told = new ArrayList<>();
        for (int v = 0; v < 3 && all != null; v++) {
            for (int what = 0; what < 4; what++) {
                told.add(victim(v, what));
            }
            int[] way = best(v);
            for (int s = 0; s < 6; s++) {
                told.add(way[s]);
            }
            for (int what = 0; what < 3; what++) {
                told.add(truths(v, what));
            }
            told.add(attempt(v));
        }
        if (all != null) {
            told.add(most(0));
            told.add(most(1));
        }
        for (int c = 0; all != null && c < all.men.size(); c++) {
            for (int what = 0; what < 9; what++) {
                told.add(about(c, what));
            }
        }
        page.chars().forEach(told::add);
        for (int what = 0; what < 10; what++) {
            told.add(count(what));
        }
        long h = 883;
        for (int number : told) {
            h = 31 * h + number;
        }
        return h;
    }
}
