/** Promises 22 and 23: count and digest. */
public final class CountTest {
    private static final Due d = new Due();

    public static void main(String[] args) {
        count();
        countRefused();
        digestWithoutTown();
        digestWithTown();
        d.end();
    }

    private static KindWords busyTown() {
        KindWords x = Due.town("11,11,11;1");
        Due.read(x, "75,36,52;3");
        x.convict(4, 0, 3, 63);
        x.convict(2, 1, 4, 21);
        x.convict(0, 2, 1, 2);
        x.say(0, 0);
        x.say(1, 0);
        x.say(2, 1);
        x.trial(0, 2, true);
        x.trial(2, 1, false);
        x.trial(2, 1, true);
        x.night();
        x.night();
        Due.type(x, "7~");
        return x;
    }

    private static void count() {
        KindWords x = busyTown();
        int[] counts = {12, 2, 3, 1, 5, 3, 2, 3, 2, 2};
        for (int what = 0; what < counts.length; what++) {
            d.due(22, "count(" + what + ")", x.count(what), counts[what]);
        }
    }

    private static void countRefused() {
        KindWords x = new KindWords();
        d.due(22, "count(10)", x.count(10), Due.OUTSIDE);
        for (int far : Due.FAR) {
            d.due(22, "count(" + far + ")", x.count(far), Due.OUTSIDE);
        }
    }

    private static long of(long start, long... numbers) {
        long h = start;
        for (long number : numbers) {
            h = 31 * h + number;
        }
        return h;
    }

    private static void digestWithoutTown() {
        KindWords x = new KindWords();
        d.due(23, "digest(), new", x.digest(), of(883, 0, 0, 0, 0, 0, 0, 0, 0, 0, 0));
        Due.type(x, "7a");
        d.due(23, "digest(), two letters", x.digest(), of(883, 55, 97, 0, 0, 0, 0, 0, 0, 0, 0, 2, 0));
    }

    private static void digestWithTown() {
        KindWords x = busyTown();
        long h = 883;
        h = of(h, 61, 1, 1, 2, -1, -1, -1, -1, 0, 0, 32, 4, 4, 0);
        h = of(h, 30, 1, 2, 3, -1, -1, 1, -1, 1, -1, 64, 0, 0, 0);
        h = of(h, 42, 2, 4, 0, -1, -1, -1, -1, -1, -1, 0, -1, -1, -1);
        h = of(h, 4, 0);
        h = of(h, 4, 0, 2, 63, 60, 3, 1, 1, 0);
        h = of(h, 2, 1, 3, 21, 20, 1, 1, -1, 1);
        h = of(h, 0, 2, 0, 2, 0, 1, 1, 0, 0);
        h = of(h, '7', '~');
        h = of(h, 12, 2, 3, 1, 5, 3, 2, 3, 2, 2);
        d.due(23, "digest()", x.digest(), h);
        d.due(23, "digest(), again", x.digest(), h);
    }
}
