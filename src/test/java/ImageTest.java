/** Promises 20 and 21: image and restore. */
public final class ImageTest {
    private static final Due d = new Due();

    public static void main(String[] args) {
        image();
        allIsKept();
        laterConvictsAreGone();
        theLatestIsKept();
        refused();
        d.end();
    }

    private static void image() {
        KindWords x = Due.town("77,77,77;9");
        d.due(20, "image()", x.image(), 0);
        x.night();
        x.night();
        d.due(21, "restore()", x.restore(), 0);
        d.due(21, "count(6)", x.count(6), 0);
        x.night();
        d.due(20, "image()", x.image(), 1);
        x.night();
        d.due(21, "restore()", x.restore(), 1);
        d.due(21, "restore(), twice", x.restore(), 1);
    }

    private static void allIsKept() {
        KindWords x = Due.town("75,36,52;3");
        x.convict(3, 0, 2, 61);
        x.convict(2, 1, 4, 21);
        x.convict(1, 2, 2, 2);
        x.say(0, 0);
        x.say(1, 0);
        x.trial(1, 4, true);
        x.trial(1, 3, false);
        x.night();
        x.say(1, 2);
        long then = x.digest();
        x.image();
        d.due(20, "digest() behind image()", x.digest(), then);
        x.say(0, 2);
        x.say(2, 1);
        x.learn(1, 5);
        x.trial(1, 4, false);
        x.night();
        x.say(1, 5);
        x.forget();
        x.restore();
        d.due(21, "digest() behind restore()", x.digest(), then);
        d.due(21, "count(1)", x.count(1), 2);
        d.due(21, "about(0, 2)", x.about(0, 2), 2);
        d.due(21, "about(0, 6)", x.about(0, 6), 1);
        d.due(21, "about(1, 3)", x.about(1, 3), 21);
        d.due(21, "about(1, 5)", x.about(1, 5), 0);
        d.due(21, "about(2, 5)", x.about(2, 5), 2);
        d.due(21, "victim(0, 1)", x.victim(0, 1), 1);
        d.due(21, "victim(1, 1)", x.victim(1, 1), 5);
        d.due(21, "count(7)", x.count(7), 2);
        d.due(21, "truths(1, 1)", x.truths(1, 1), 16);
        d.due(21, "truths(1, 0)", x.truths(1, 0), 16);
        d.due(21, "say(0, 2), the miser's second", x.say(0, 2), 1);
        d.due(21, "about(0, 2), the miser's second", x.about(0, 2), 1);
    }

    private static void laterConvictsAreGone() {
        KindWords x = Due.town("77,77,77;9");
        x.convict(0, 0, 1, 1);
        x.image();
        x.convict(1, 1, 2, 3);
        x.convict(2, 1, 3, 3);
        Due.type(x, "ab");
        x.restore();
        d.due(21, "count(2)", x.count(2), 1);
        d.due(21, "about(1, 0)", x.about(1, 0), Due.UNKNOWN);
        d.due(21, "victim(1, 2)", x.victim(1, 2), 0);
        d.due(21, "count(4)", x.count(4), 1);
        d.due(21, "weeks(40, 1, 0)", x.weeks(40, 1, 0), 1);
        d.due(21, "count(8), the page is not of the image", x.count(8), 2);
        d.due(21, "convict(4, 2, 5, 7)", x.convict(4, 2, 5, 7), 1);
        d.due(21, "about(1, 0)", x.about(1, 0), 4);
        d.due(21, "about(1, 5)", x.about(1, 5), 3);
        d.due(21, "about(1, 6)", x.about(1, 6), 0);
    }

    private static void theLatestIsKept() {
        KindWords x = Due.town("77,77,77;9");
        x.image();
        x.convict(0, 0, 1, 1);
        x.night();
        x.image();
        x.night();
        d.due(21, "restore()", x.restore(), 1);
        d.due(21, "count(2)", x.count(2), 1);
    }

    private static void refused() {
        KindWords x = new KindWords();
        d.due(20, "image()", x.image(), Due.STATE);
        d.due(21, "restore()", x.restore(), Due.STATE);
        Due.read(x, "77,77,77;9");
        d.due(21, "restore(), none kept", x.restore(), Due.STATE);
        x.image();
        d.due(21, "town() refused", Due.read(x, "77,77"), Due.STATE);
        d.due(21, "restore() behind a refused town()", x.restore(), 0);
        x.blank();
        Due.read(x, "77,77,77;9");
        d.due(21, "restore(), another town", x.restore(), Due.STATE);
        x.image();
        d.due(21, "restore(), kept anew", x.restore(), 0);
    }
}
