/** Promises 27 to 30: the image, the counts and the digest. */
public final class ToldTest {
    private static final int NONE = -1, OUTSIDE = -102, STATE = -103;
    private static final Check CHECK = new Check();

    public static void main(String[] args) {
        imageKeeps();
        imageDoesNotKeep();
        imageIsTheLatest();
        restoreRefusals();
        count();
        digest();
        constants();
        CHECK.end("ToldTest");
    }

    private static LineToWreck onTheWay() {
        LineToWreck x = Check.night("50:0:091:0000");
        x.rocket(50, 0);
        x.rocket(50, 0);
        x.man(0, 10);
        x.man(0, 10);
        x.man(0, 10);
        x.fire(0, 0);
        x.come(1);
        x.hawser(30);
        x.said(0, 1);
        x.wreck(10);
        return x;
    }

    private static void imageKeeps() {
        LineToWreck x = onTheWay();
        CHECK.due("image()", x.image(), 4);
        long before = x.digest();
        x.fire(1, 0);
        x.come(0);
        x.minutes(2);
        x.hawser(1);
        x.said(1, 0);
        x.said(2, 0);
        x.wreck(90);
        x.breaks();
        CHECK.due("restore()", x.restore(), 4);
        CHECK.due("digest()", x.digest(), before);
        int[] counts = {2, 1, 3, 1, 4, 1, 0, 4, 30, 1, 1};
        for (int what = 0; what < counts.length; what++) {
            CHECK.due("count(" + what + ")", x.count(what), counts[what]);
        }
        CHECK.due("over at", x.about(1, 5), 4);
        CHECK.due("not over", x.about(0, 5), NONE);
        CHECK.due("orders by what was said", x.orders(), 3);
        CHECK.due("a station", x.stations(0, 1), 10);
        CHECK.due("fire(1, 0)", x.fire(1, 0), 50);
        x.wreck(5);
        x.come(2);
        CHECK.due("restore() again", x.restore(), 4);
        CHECK.due("digest() again", x.digest(), before);
        // the over-minute of the image, not that of a later coming
        LineToWreck y = onTheWay();
        y.image();
        y.minutes(3);
        y.come(0);
        y.image();
        CHECK.due("restore()", y.restore(), 11);
        CHECK.due("over at", y.about(0, 5), 11);
    }

    private static void imageDoesNotKeep() {
        LineToWreck x = onTheWay();
        x.image();
        x.behind(0, 2, true);
        x.letter('5');
        x.order(0);
        x.restore();
        CHECK.due("who comes behind whom", x.behind(0, 2, true), 1);
        CHECK.due("the page", x.count(11), 1);
        CHECK.due("how often order()", x.count(13), 1);
    }

    private static void imageIsTheLatest() {
        LineToWreck x = Check.night("50:0:091:0000");
        x.rocket(50, 0);
        CHECK.due("image()", x.image(), 0);
        x.minutes(7);
        CHECK.due("image()", x.image(), 7);
        x.minutes(4);
        CHECK.due("restore()", x.restore(), 7);
        x.breaks();
        CHECK.due("image() when she has broken", x.image(), 7);
        x.restore();
        CHECK.due("broken in the image", x.count(6), 1);
        LineToWreck line = Check.night("50:0:091:0000");
        line.rocket(50, 0);
        line.image();
        line.fire(0, 0);
        line.restore();
        CHECK.due("no line in the image", line.count(5), 0);
        CHECK.due("nothing fired in the image", line.count(1), 0);
    }

    private static void restoreRefusals() {
        LineToWreck x = onTheWay();
        CHECK.refused(x, "restore() without an image", STATE, LineToWreck::restore);
        x.image();
        CHECK.due("a refused rocket", x.rocket(9, 0), OUTSIDE);
        CHECK.due("a refused man", x.man(9, 0), OUTSIDE);
        CHECK.due("a refused night", x.night(), STATE);
        CHECK.due("restore()", x.restore(), 4);
        x.rocket(50, 0);
        CHECK.refused(x, "restore() behind a rocket", STATE, LineToWreck::restore);
        x.image();
        CHECK.due("restore()", x.restore(), 4);
        x.man(0, 1);
        CHECK.refused(x, "restore() behind a man", STATE, LineToWreck::restore);
        x.image();
        Check.page(x, "50:0:091:0000");
        x.night();
        CHECK.refused(x, "restore() in another night", STATE, LineToWreck::restore);
        for (int i = 0; i < 3; i++) {
            x.rocket(50, 0);
        }
        for (int i = 0; i < 4; i++) {
            x.man(0, 10);
        }
        CHECK.refused(x, "restore() in another night that is alike", STATE, LineToWreck::restore);
    }

    private static void count() {
        LineToWreck x = onTheWay();
        Check.page(x, "50");
        x.order(0);
        x.fire(1, 0);
        int[] counts = {2, 2, 3, 1, 4, 1, 0, 4, 30, 1, 1, 2, 1, 1};
        for (int what = 0; what < counts.length; what++) {
            CHECK.due("count(" + what + ")", x.count(what), counts[what]);
        }
        x.breaks();
        CHECK.due("count(6)", x.count(6), 1);
        for (int what : new int[] {-1, 14, Integer.MIN_VALUE, Integer.MAX_VALUE}) {
            CHECK.refused(x, "count(" + what + ")", OUTSIDE, y -> y.count(what));
        }
    }

    private static void digest(String of, LineToWreck x, long... numbers) {
        long h = 701;
        for (long number : numbers) {
            h = 31 * h + number;
        }
        CHECK.due("digest() of " + of, x.digest(), h);
    }

    private static void digest() {
        digest("a new object", new LineToWreck(), 1, 0, 0, 0, 0, 0, 0, 0, 0, 60, 0, 0, 0, 0, 0);
        LineToWreck x = Check.night("50:0:091:37");
        digest("a night", x, 50, 0, 0, 9, 1, 3, 7, -1, -1, -1, -1, -1, -1, -1, -1,
                1, 0, 0, 0, 0, 0, 0, 0, 2, 60, 0, 0, 0, 1, 0);
        // right in STAGE 0, which the digest asks, and not in the next; the other the other way
        x.rocket(50, 1);
        x.rocket(56, 1);
        x.man(1, 10);
        x.man(3, 20);
        x.fire(0, 0);
        x.come(0);
        x.wreck(8);
        Check.page(x, "5x");
        digest("a night on its way", x, 50, 0, 0, 9, 1, 3, 7, -1, -1, -1, -1, -1, -1, -1, -1,
                1, 1, 0, 1,
                1, 10, 2, 0, 1, 2, 0,
                3, 20, 9, 0, 0, -1, 0,
                2, 1, 18, '5', 'x',
                2, 1, 2, 1, 2, 1, 0, 2, 60, 0, 1, 2, 1, 0);
    }

    private static void constants() {
        CHECK.due("NONE", LineToWreck.NONE, -1);
        CHECK.due("UNKNOWN", LineToWreck.UNKNOWN, -101);
        CHECK.due("OUTSIDE", LineToWreck.OUTSIDE, -102);
        CHECK.due("STATE", LineToWreck.STATE, -103);
        CHECK.due("FULL", LineToWreck.FULL, -104);
    }
}
