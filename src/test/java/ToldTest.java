import java.math.BigInteger;

/** Promises 27 to 30: the image, the counts and the digest. */
public final class ToldTest {
    private static final Check CHECK = new Check();

    public static void main(String[] args) {
        imageTellsTheMinute();
        imageKeepsTheMinute();
        imageKeepsTheLine();
        imageKeepsThatSheHasBroken();
        imageKeepsWhichAreFired();
        imageKeepsWhoIsOver();
        imageKeepsTheHawser();
        imageKeepsWhatWasSaid();
        imageKeepsWrecks();
        imageDoesNotKeepWhoComesBehind();
        imageDoesNotKeepTheRest();
        imageIsTheLatest();
        imageWithoutNight();

        restoreTwice();
        restoreBehindMore();
        restoreOfNone();
        restoreInAnotherNight();
        restoreBehindRockets();
        restoreBehindMen();
        restoreBehindRefusals();

        countOfNothing();
        countOfEach();
        countOfTheMost();
        countOutside();

        digestOfANewObject();
        digestOfANight();
        digestOfRockets();
        digestOfMen();
        digestOfOrders();
        digestOfWrecks();
        digestOfThePage();
        digestOfAll();
        digestChangesNothing();
        CHECK.end("ToldTest");
    }

    /** MINUTE 4: THE LINE is there, one man of three is over; something was SAID, and there is a WRECK. */
    private static LineToWreck onTheWay() {
        LineToWreck x = Check.night("50:0:091:0000");
        x.rocket(50, 0);
        x.rocket(50, 0);
        x.man(0, 10);
        x.man(0, 10);
        x.man(0, 10);
        x.fire(0, 0);
        x.come(1);
        x.hawser(30);
        x.said(0, 1);
        x.wreck(10);
        return x;
    }

    // ---- promise 27

    private static void imageTellsTheMinute() {
        CHECK.promise(27, "An IMAGE is kept (one; the latest): the MINUTE.");
        CHECK.due("image() in minute 0", Check.night("50:0:091:0").image(), 0);
        CHECK.due("image() in minute 4", onTheWay().image(), 4);
        LineToWreck x = Check.night("50:0:091:0000000000");
        x.minutes(49);
        CHECK.due("image() in minute 49", x.image(), 49);
        CHECK.due("image() when she has broken", Check.broken().image(), 7);
    }

    private static void imageKeepsTheMinute() {
        CHECK.promise(27, "An IMAGE keeps MINUTES");
        LineToWreck x = onTheWay();
        x.image();
        x.minutes(7);
        CHECK.due("restore()", x.restore(), 4);
        CHECK.due("count(4)", x.count(4), 4);
    }

    private static void imageKeepsTheLine() {
        CHECK.promise(27, "An IMAGE keeps MINUTES, THE LINE");
        LineToWreck x = Check.night("50:0:091:0000");
        x.rocket(50, 0);
        x.image();
        x.fire(0, 0);
        x.restore();
        CHECK.due("count(5), kept without the line", x.count(5), 0);
        x.fire(0, 0);
        x.image();
        x.restore();
        CHECK.due("count(5), kept with the line", x.count(5), 1);
    }

    private static void imageKeepsThatSheHasBroken() {
        CHECK.promise(27, "whether SHE has BROKEN");
        LineToWreck x = onTheWay();
        x.image();
        x.breaks();
        x.restore();
        CHECK.due("count(6), kept before", x.count(6), 0);
        CHECK.due("come(0)", x.come(0), 8);
        x.breaks();
        x.image();
        x.restore();
        CHECK.due("count(6), kept when she had broken", x.count(6), 1);
    }

    private static void imageKeepsWhichAreFired() {
        CHECK.promise(27, "which ROCKETS are fired");
        LineToWreck x = onTheWay();
        x.image();
        x.fire(1, 0);
        x.restore();
        CHECK.due("count(1)", x.count(1), 1);
        CHECK.due("fire(0, 0), fired in the image", x.fire(0, 0), Check.STATE);
        CHECK.due("fire(1, 0), fired behind it", x.fire(1, 0), 50);
    }

    private static void imageKeepsWhoIsOver() {
        CHECK.promise(27, "who is over");
        LineToWreck x = onTheWay();
        x.image();
        x.come(0);
        x.restore();
        CHECK.due("count(3)", x.count(3), 1);
        CHECK.due("about(1, 4)", x.about(1, 4), 1);
        CHECK.due("about(1, 5)", x.about(1, 5), 4);
        CHECK.due("about(0, 4)", x.about(0, 4), 0);
        CHECK.due("about(0, 5)", x.about(0, 5), Check.NONE);
        x.minutes(3);
        CHECK.due("come(0)", x.come(0), 11);
        x.image();
        x.come(2);
        x.restore();
        CHECK.due("about(0, 5), kept later", x.about(0, 5), 11);
        CHECK.due("about(2, 5), kept later", x.about(2, 5), Check.NONE);
    }

    private static void imageKeepsTheHawser() {
        CHECK.promise(27, "who is over, THE HAWSER");
        LineToWreck x = onTheWay();
        x.image();
        x.hawser(1);
        x.restore();
        CHECK.due("count(8)", x.count(8), 30);
        CHECK.due("hawser(2)", x.hawser(2), 30);
    }

    private static void imageKeepsWhatWasSaid() {
        CHECK.promise(27, "what was SAID, WRECKS");
        LineToWreck x = onTheWay();
        x.image();
        x.said(1, 0);
        x.said(2, 0);
        CHECK.due("orders()", x.orders(), 0);
        x.restore();
        CHECK.due("count(9)", x.count(9), 1);
        CHECK.due("orders()", x.orders(), 3);
        x.said(1, 2);
        CHECK.due("orders()", x.orders(), 1);
    }

    private static void imageKeepsWrecks() {
        CHECK.promise(27, "WRECKS (who comes BEHIND whom stays as it is)");
        LineToWreck x = onTheWay();
        x.image();
        x.wreck(5);
        x.wreck(90);
        x.restore();
        CHECK.due("count(10)", x.count(10), 1);
        CHECK.due("stations(0, 0)", x.stations(0, 0), 1);
        CHECK.due("stations(0, 1)", x.stations(0, 1), 10);
        x.wreck(7);
        CHECK.due("stations(0, 0)", x.stations(0, 0), 2);
        CHECK.due("stations(0, 1)", x.stations(0, 1), 7);
    }

    private static void imageDoesNotKeepWhoComesBehind() {
        CHECK.promise(27, "(who comes BEHIND whom stays as it is)");
        LineToWreck x = onTheWay();
        x.behind(2, 1, true);
        x.image();
        x.behind(0, 2, true);
        x.behind(2, 1, false);
        x.restore();
        CHECK.due("behind(0, 2, true), told behind the image", x.behind(0, 2, true), 1);
        CHECK.due("behind(2, 1, false), undone behind the image", x.behind(2, 1, false), 0);
    }

    private static void imageDoesNotKeepTheRest() {
        CHECK.promise(28, "It goes on from the IMAGE: the MINUTE.");
        LineToWreck x = onTheWay();
        x.image();
        x.letter('5');
        x.order(0);
        x.restore();
        CHECK.due("count(11), the page", x.count(11), 1);
        CHECK.due("count(13), how often order() was done", x.count(13), 1);
        CHECK.due("count(12), how often a night was read", x.count(12), 1);
    }

    private static void imageIsTheLatest() {
        CHECK.promise(27, "(one; the latest)");
        LineToWreck x = Check.night("50:0:091:0000");
        x.rocket(50, 0);
        CHECK.due("image()", x.image(), 0);
        x.minutes(7);
        CHECK.due("image()", x.image(), 7);
        x.minutes(4);
        CHECK.due("restore()", x.restore(), 7);
        CHECK.due("restore() again, not to the first one", x.restore(), 7);
    }

    private static void imageWithoutNight() {
        CHECK.promise(27, "STATE: no NIGHT.");
        CHECK.refused("image()", LineToWreck::new, Check.STATE, LineToWreck::image);
        LineToWreck x = new LineToWreck();
        x.image();
        Check.page(x, "50:0:091:0");
        x.night();
        CHECK.due("restore() behind a refused image()", x.restore(), Check.STATE);
    }

    // ---- promise 28

    private static void restoreTwice() {
        CHECK.promise(28, "It goes on from the IMAGE: the MINUTE.");
        LineToWreck x = onTheWay();
        x.image();
        long before = x.digest();
        for (int i = 0; i < 3; i++) {
            x.fire(1, 0);
            x.come(0);
            x.minutes(2);
            x.hawser(1);
            x.said(1, 0);
            x.wreck(90);
            x.breaks();
            CHECK.due("restore()", x.restore(), 4);
            CHECK.due("digest()", x.digest(), before);
        }
        CHECK.due("restore() of what is so", x.restore(), 4);
        CHECK.due("digest()", x.digest(), before);
    }

    private static void restoreBehindMore() {
        CHECK.promise(28, "It goes on from the IMAGE: the MINUTE.");
        LineToWreck x = onTheWay();
        x.image();
        x.hawser(1);
        x.image();
        x.hawser(2);
        x.restore();
        CHECK.due("count(8), of the image kept last", x.count(8), 1);
    }

    private static void restoreOfNone() {
        CHECK.promise(28, "STATE: none was kept");
        CHECK.refused("restore() of a new object", LineToWreck::new, Check.STATE, LineToWreck::restore);
        CHECK.refused("restore() of a night", () -> Check.night("50:0:091:0"), Check.STATE, LineToWreck::restore);
        CHECK.refused("restore() on the way", ToldTest::onTheWay, Check.STATE, LineToWreck::restore);
    }

    private static LineToWreck anotherNight() {
        LineToWreck x = onTheWay();
        x.image();
        Check.page(x, "50:0:091:0000");
        x.night();
        x.rocket(50, 0);
        x.rocket(50, 0);
        x.man(0, 10);
        x.man(0, 10);
        x.man(0, 10);
        return x;
    }

    private static void restoreInAnotherNight() {
        CHECK.promise(28, "or there is another NIGHT");
        CHECK.refused("restore() in another night that is alike", ToldTest::anotherNight, Check.STATE,
                LineToWreck::restore);
        LineToWreck x = anotherNight();
        CHECK.due("image() in another night", x.image(), 0);
        x.minutes(1);
        CHECK.due("restore() to it", x.restore(), 0);
    }

    private static LineToWreck oneRocketMore() {
        LineToWreck x = onTheWay();
        x.image();
        x.rocket(50, 0);
        return x;
    }

    private static void restoreBehindRockets() {
        CHECK.promise(28, "or ROCKETS, MEN came, since.");
        CHECK.refused("restore() behind a rocket", ToldTest::oneRocketMore, Check.STATE, LineToWreck::restore);
        LineToWreck x = oneRocketMore();
        CHECK.due("image()", x.image(), 4);
        x.minutes(1);
        CHECK.due("restore() to an image with it", x.restore(), 4);
    }

    private static LineToWreck oneManMore() {
        LineToWreck x = onTheWay();
        x.image();
        x.man(0, 1);
        return x;
    }

    private static void restoreBehindMen() {
        CHECK.promise(28, "or ROCKETS, MEN came, since.");
        CHECK.refused("restore() behind a man", ToldTest::oneManMore, Check.STATE, LineToWreck::restore);
        LineToWreck x = oneManMore();
        CHECK.due("image()", x.image(), 4);
        x.minutes(1);
        CHECK.due("restore() to an image with him", x.restore(), 4);
    }

    private static void restoreBehindRefusals() {
        CHECK.promise(28, "STATE: none was kept, or there is another NIGHT, or ROCKETS, MEN came, since.");
        LineToWreck x = onTheWay();
        x.image();
        x.minutes(1);
        CHECK.due("a refused rocket", x.rocket(9, 0), Check.OUTSIDE);
        CHECK.due("a refused man", x.man(9, 0), Check.OUTSIDE);
        CHECK.due("a refused night", x.night(), Check.STATE);
        CHECK.due("restore()", x.restore(), 4);
        LineToWreck y = Check.night("50:0:091:0000");
        for (int i = 0; i < 6; i++) {
            y.rocket(50, 0);
            y.man(0, 10);
        }
        y.image();
        y.minutes(1);
        CHECK.due("a seventh rocket", y.rocket(50, 0), Check.FULL);
        CHECK.due("a seventh man", y.man(0, 10), Check.FULL);
        CHECK.due("restore()", y.restore(), 0);
    }

    // ---- promise 29

    private static void counts(LineToWreck x, int... wants) {
        for (int what = 0; what < wants.length; what++) {
            CHECK.due("count(" + what + ")", x.count(what), wants[what]);
        }
    }

    private static void countOfNothing() {
        CHECK.promise(29, "How many: 0 ROCKETS");
        counts(new LineToWreck(), 0, 0, 0, 0, 0, 0, 0, 0, 60, 0, 0, 0, 0, 0);
        counts(Check.night("50:0:091:0000000000"), 0, 0, 0, 0, 0, 0, 0, 10, 60, 0, 0, 0, 1, 0);
    }

    private static void countOfEach() {
        CHECK.promise(29, "How many: 0 ROCKETS, 1 of them fired, 2 MEN, 3 who are over, 4 the MINUTE, 5 whether THE LINE is"
                + " there (1, 0), 6 whether SHE has BROKEN, 7 STAGES, 8 THE HAWSER, 9 what was SAID, 10 WRECKS, 11 letters of"
                + " THE PAGE, 12 how often a NIGHT was read, 13 how often order() was done.");
        counts(Check.withoutLine(), 3, 1, 3, 0, 2, 0, 0, 7, 7, 1, 2, 2, 1, 1);
        counts(Check.onTheWay(), 3, 2, 3, 1, 7, 1, 0, 7, 7, 2, 3, 2, 1, 1);
        counts(Check.broken(), 3, 2, 3, 1, 7, 1, 1, 7, 7, 2, 3, 2, 1, 1);
    }

    private static void countOfTheMost() {
        CHECK.promise(29, "How many: 0 ROCKETS, 1 of them fired, 2 MEN, 3 who are over");
        LineToWreck x = Check.night("50:0:091:9");
        Check.page(x, "50:0:091:0000000000");
        x.night();
        for (int i = 0; i < 6; i++) {
            x.rocket(50, 0);
            x.fire(i, 0);
            x.man(1, 1);
        }
        for (int i = 0; i < 15; i++) {
            x.said(0, 1);
        }
        for (int i = 0; i < 8; i++) {
            x.wreck(i);
        }
        for (int i = 0; i < 30; i++) {
            x.order(0);
        }
        for (int i = 0; i < 6; i++) {
            x.come(i);
        }
        for (int i = 0; i < 22; i++) {
            x.letter('5');
        }
        x.minutes(43);
        counts(x, 6, 6, 6, 6, 49, 1, 0, 10, 60, 15, 8, 22, 2, 30);
    }

    private static void countOutside() {
        CHECK.promise(29, "OUTSIDE.");
        for (int what : new int[] {-1, 14, Check.LEAST, Check.MOST}) {
            CHECK.refused("count(" + what + ")", Check::onTheWay, Check.OUTSIDE, x -> x.count(what));
            CHECK.refused("count(" + what + ")", LineToWreck::new, Check.OUTSIDE, x -> x.count(what));
        }
    }

    // ---- promise 30

    /** Reckoned with whole numbers of any size, and wrapped around at last. */
    private static void digest(LineToWreck x, long... numbers) {
        BigInteger h = BigInteger.valueOf(701);
        for (long number : numbers) {
            h = h.multiply(BigInteger.valueOf(31)).add(BigInteger.valueOf(number));
        }
        CHECK.due("digest()", x.digest(), h.longValue());
    }

    private static void digestOfANewObject() {
        CHECK.promise(30, "h is 701, then for each of these numbers, in order, 31 times h, and it (as longs, wrapping)");
        digest(new LineToWreck(), 1, 0, 0, 0, 0, 0, 0, 0, 0, 60, 0, 0, 0, 0, 0);
    }

    private static void digestOfANight() {
        CHECK.promise(30, "with a NIGHT (all up to the next semicolon) what sea() tells for 0 to 4 and 10 to 19");
        digest(Check.night("50:8:091:37"), 50, 8, 0, 9, 1, 3, 7, -1, -1, -1, -1, -1, -1, -1, -1,
                1, 0, 0, 0, 0, 0, 0, 0, 2, 60, 0, 0, 0, 1, 0);
        digest(Check.night("99:9:910:9876543210"), 99, 9, 9, 1, 0, 9, 8, 7, 6, 5, 4, 3, 2, 1, 0,
                1, 0, 0, 0, 0, 0, 0, 0, 10, 60, 0, 0, 0, 1, 0);
    }

    private static void digestOfRockets() {
        CHECK.promise(30, "of each ROCKET what hits() tells in STAGE 0 for 0 and 1");
        LineToWreck x = Check.night("50:9:352:0");
        // right in STAGE 0 by none, and not in the next; the other one the other way
        x.rocket(50, 1);
        x.rocket(56, 1);
        digest(x, 50, 9, 3, 5, 2, 0, -1, -1, -1, -1, -1, -1, -1, -1, -1, 1, 2, 0, 1,
                1, 2, 0, 0, 0, 0, 0, 0, 1, 60, 0, 0, 0, 1, 0);
    }

    private static void digestOfMen() {
        CHECK.promise(30, "of each MAN what about() tells for 0 to 6");
        LineToWreck x = Check.night("50:0:091:00");
        x.rocket(50, 0);
        x.man(1, 10);
        x.man(3, 20);
        x.man(2, 1);
        x.fire(0, 0);
        x.come(0);
        x.hawser(15);
        digest(x, 50, 0, 0, 9, 1, 0, 0, -1, -1, -1, -1, -1, -1, -1, -1, 1, 1,
                1, 10, 2, 0, 1, 2, 0,
                3, 20, 11, 1, 0, -1, 0,
                2, 1, 2, 0, 0, -1, 1,
                6, 1, 1, 3, 1, 2, 1, 0, 2, 15, 0, 0, 0, 1, 0);
    }

    private static void digestOfOrders() {
        CHECK.promise(30, "ORDERS; with WRECKS");
        LineToWreck x = Check.night("50:0:091:0");
        x.man(0, 1);
        x.man(0, 1);
        x.said(0, 1);
        digest(x, 50, 0, 0, 9, 1, 0, -1, -1, -1, -1, -1, -1, -1, -1, -1,
                0, 1, 2, 0, 0, -1, 0, 0, 1, 2, 0, 0, -1, 0,
                1, 0, 0, 2, 0, 0, 0, 0, 1, 60, 1, 0, 0, 1, 0);
        x.said(1, 0);
        digest(x, 50, 0, 0, 9, 1, 0, -1, -1, -1, -1, -1, -1, -1, -1, -1,
                0, 1, 2, 0, 0, -1, 0, 0, 1, 2, 0, 0, -1, 0,
                0, 0, 0, 2, 0, 0, 0, 0, 1, 60, 2, 0, 0, 1, 0);
    }

    private static void digestOfWrecks() {
        CHECK.promise(30, "with WRECKS (all up to the next semicolon) what stations() tells of 10 for 0 and 1");
        LineToWreck x = Check.night("50:0:091:0");
        x.wreck(31);
        digest(x, 50, 0, 0, 9, 1, 0, -1, -1, -1, -1, -1, -1, -1, -1, -1,
                1, 1, 41, 0, 0, 0, 0, 0, 0, 0, 1, 60, 0, 1, 0, 1, 0);
        x.wreck(10);
        // 20 serves 10 alone, as 31 is 11 from it
        digest(x, 50, 0, 0, 9, 1, 0, -1, -1, -1, -1, -1, -1, -1, -1, -1,
                1, 2, 20, 0, 0, 0, 0, 0, 0, 0, 1, 60, 0, 2, 0, 1, 0);
        x.wreck(9);
        digest(x, 50, 0, 0, 9, 1, 0, -1, -1, -1, -1, -1, -1, -1, -1, -1,
                1, 2, 19, 0, 0, 0, 0, 0, 0, 0, 1, 60, 0, 3, 0, 1, 0);
    }

    private static void digestOfThePage() {
        CHECK.promise(30, "letters of THE PAGE");
        LineToWreck x = new LineToWreck();
        x.letter(126);
        x.letter(1);
        x.letter('x');
        digest(x, 1, 126, 1, 'x', 0, 0, 0, 0, 0, 0, 0, 0, 60, 0, 0, 3, 0, 0);
        x.blank();
        digest(x, 1, 0, 0, 0, 0, 0, 0, 0, 0, 60, 0, 0, 0, 0, 0);
    }

    private static void digestOfAll() {
        CHECK.promise(30, "what count() tells for 0 to 13.");
        digest(Check.broken(), 40, 3, 2, 6, 2, 1, 2, 3, 4, 0, 5, 6, -1, -1, -1,
                1, 5, 4, 5, 4, 5,
                0, 10, 6, 1, 0, -1, 0,
                1, 22, 5, 1, 1, 7, 0,
                4, 18, 7, 1, 0, -1, 0,
                1, 2, 22, '5', 'x',
                3, 2, 3, 1, 7, 1, 1, 7, 7, 2, 3, 2, 1, 1);
    }

    private static void digestChangesNothing() {
        CHECK.promise(30, "h is 701");
        LineToWreck x = Check.onTheWay();
        long first = x.digest();
        CHECK.due("digest() again", x.digest(), first);
        CHECK.due("count(13), as no order() was done by it", x.count(13), 1);
    }
}
