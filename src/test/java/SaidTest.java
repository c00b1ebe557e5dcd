/** Promises 21 to 23: what was said, and in what orders all could have come. */
public final class SaidTest {
    private static final int MAN = 0, BOY = 1, MATE = 2, CAPTAIN = 4;
    private static final Check CHECK = new Check();

    public static void main(String[] args) {
        saidCounts();
        saidTwice();
        saidAtAnyTime();
        saidUnknown();
        saidFull();
        saidRefusalsInOrder();

        ordersOfNone();
        ordersOfAll();
        ordersByWhatWasSaid();
        ordersByWhoComesBehind();
        ordersOfCaptains();
        ordersOfThoseWhoAreOver();
        ordersThatCannotBe();

        sureOfOne();
        surePlaces();
        sureInAllOfThem();
        sureOfNoOrders();
        sureUnknown();
        CHECK.end("SaidTest");
    }

    private static LineToWreck with(int... kinds) {
        LineToWreck x = Check.night("50:0:091:0000");
        for (int kind : kinds) {
            x.man(kind, 10);
        }
        return x;
    }

    private static LineToWreck fifteenSaid() {
        LineToWreck x = with(MAN, MAN, MAN);
        for (int i = 1; i <= 15; i++) {
            CHECK.due("said the " + i + ". time", x.said(i % 2 == 0 ? 0 : 1, 2), i);
        }
        return x;
    }

    // ---- promise 21

    private static void saidCounts() {
        CHECK.promise(21, "It is SAID that a came over ahead of b: how many were.");
        LineToWreck x = with(MAN, MAN, MAN);
        CHECK.due("said(0, 1)", x.said(0, 1), 1);
        CHECK.due("said(2, 1)", x.said(2, 1), 2);
        CHECK.due("said(0, 2)", x.said(0, 2), 3);
        CHECK.due("count(9)", x.count(9), 3);
        CHECK.due("sure(0)", x.sure(0), 0);
        CHECK.due("sure(1)", x.sure(1), 2);
    }

    private static void saidTwice() {
        CHECK.promise(21, "It is SAID that a came over ahead of b: how many were.");
        LineToWreck x = with(MAN, MAN);
        CHECK.due("said(0, 1)", x.said(0, 1), 1);
        CHECK.due("said(0, 1) again", x.said(0, 1), 2);
        CHECK.due("orders()", x.orders(), 1);
    }

    private static void saidAtAnyTime() {
        CHECK.promise(21, "It is SAID that a came over ahead of b: how many were.");
        CHECK.due("said(2, 1) against what is so", Check.onTheWay().said(2, 1), 3);
        CHECK.due("said(0, 1) when she has broken", Check.broken().said(0, 1), 3);
    }

    private static void saidUnknown() {
        CHECK.promise(21, "UNKNOWN: a, b, or they are the same");
        int[][] unknown = {{-1, 0}, {3, 0}, {0, -1}, {0, 3}, {0, 0}, {2, 2}, {3, 3}, {-1, -1}, {Check.LEAST, 0},
                {0, Check.MOST}, {32, 0}, {0, 33}};
        for (int[] u : unknown) {
            CHECK.refused("said(" + u[0] + ", " + u[1] + ")", Check::onTheWay, Check.UNKNOWN, x -> x.said(u[0], u[1]));
        }
        CHECK.refused("said(0, 1) of one", () -> with(MAN), Check.UNKNOWN, x -> x.said(0, 1));
        LineToWreck six = with(MAN, MAN, MAN, MAN, MAN, MAN);
        CHECK.due("said(5, 6) of six", six.said(5, 6), Check.UNKNOWN);
        CHECK.due("said(6, 5) of six", six.said(6, 5), Check.UNKNOWN);
        CHECK.due("said(5, 0) of six", six.said(5, 0), 1);
    }

    private static void saidFull() {
        CHECK.promise(21, "SAID: that one came over ahead of another one (15 at most).");
        CHECK.due("count(9) of fifteen", fifteenSaid().count(9), 15);
        CHECK.promise(21, "FULL.");
        CHECK.refused("said the 16. time", SaidTest::fifteenSaid, Check.FULL, x -> x.said(0, 1));
        CHECK.refused("said the 16. time, as before", SaidTest::fifteenSaid, Check.FULL, x -> x.said(1, 2));
    }

    private static void saidRefusalsInOrder() {
        CHECK.promise(21, "UNKNOWN: a, b, or they are the same; FULL.");
        LineToWreck x = fifteenSaid();
        CHECK.due("said(0, 0), the 16. time", x.said(0, 0), Check.UNKNOWN);
        CHECK.due("said(0, 3), the 16. time", x.said(0, 3), Check.UNKNOWN);
        CHECK.due("said(-1, 0), the 16. time", x.said(-1, 0), Check.UNKNOWN);
    }

    // ---- promise 22

    private static void ordersOfNone() {
        CHECK.promise(22, "ORDERS.");
        CHECK.due("orders() of a new object", new LineToWreck().orders(), 1);
        CHECK.due("orders() of no men", with().orders(), 1);
    }

    private static void ordersOfAll() {
        CHECK.promise(22, "ORDERS: in how many orders all MEN could have come");
        int[] factorials = {1, 1, 2, 6, 24, 120, 720};
        LineToWreck x = with();
        for (int men = 1; men <= 6; men++) {
            x.man(men % 4, 10);
            CHECK.due("orders() of " + men, x.orders(), factorials[men]);
        }
    }

    private static void ordersByWhatWasSaid() {
        CHECK.promise(22, "so that all that was SAID is so");
        LineToWreck x = with(MAN, BOY, MATE);
        x.said(2, 0);
        CHECK.due("orders()", x.orders(), 3);
        x.said(1, 0);
        CHECK.due("orders()", x.orders(), 2);
        x.said(1, 2);
        CHECK.due("orders()", x.orders(), 1);
        x.man(MAN, 1);
        CHECK.due("orders() with one more", x.orders(), 4);
    }

    private static void ordersByWhoComesBehind() {
        CHECK.promise(22, "each comes BEHIND whom he must");
        LineToWreck x = with(MAN, BOY, MATE);
        x.behind(0, 1, true);
        CHECK.due("orders()", x.orders(), 3);
        x.behind(0, 2, true);
        CHECK.due("orders()", x.orders(), 2);
        x.said(1, 2);
        CHECK.due("orders()", x.orders(), 1);
        x.behind(0, 1, false);
        CHECK.due("orders()", x.orders(), 1);
        x.behind(0, 2, false);
        CHECK.due("orders()", x.orders(), 3);
    }

    private static void ordersOfCaptains() {
        CHECK.promise(22, "CAPTAINS behind all others");
        LineToWreck x = with(MAN, CAPTAIN, BOY, CAPTAIN);
        CHECK.due("orders() of two captains and two others", x.orders(), 4);
        x.said(1, 3);
        CHECK.due("orders()", x.orders(), 2);
        x.behind(0, 2, true);
        CHECK.due("orders()", x.orders(), 1);
        x.said(3, 2);
        CHECK.due("orders(), a captain ahead of a boy", x.orders(), 0);
        CHECK.due("orders() of captains alone", with(CAPTAIN, CAPTAIN, CAPTAIN).orders(), 6);
    }

    private static void ordersOfThoseWhoAreOver() {
        CHECK.promise(22, "ORDERS: in how many orders all MEN could have come");
        LineToWreck x = with(MAN, BOY, MATE);
        x.rocket(50, 0);
        x.fire(0, 0);
        x.come(2);
        CHECK.due("orders() of all, though one is over", x.orders(), 6);
        x.come(0);
        x.breaks();
        CHECK.due("orders() when she has broken", x.orders(), 6);
    }

    private static void ordersThatCannotBe() {
        CHECK.promise(22, "ORDERS: in how many orders all MEN could have come so that all that was SAID is so");
        LineToWreck x = with(MAN, BOY, MATE);
        x.said(0, 1);
        x.said(1, 0);
        CHECK.due("orders(), each ahead of the other", x.orders(), 0);
        LineToWreck y = with(MAN, BOY, MATE);
        y.said(0, 1);
        y.said(1, 2);
        y.behind(0, 2, true);
        CHECK.due("orders(), three in a circle", y.orders(), 0);
    }

    // ---- promise 23

    private static void sureOfOne() {
        CHECK.promise(23, "SURE: the place (from 0) of one in all of these.");
        CHECK.due("sure(0) of one", with(BOY).sure(0), 0);
        LineToWreck two = with(MAN, MAN);
        CHECK.due("sure(0) of two", two.sure(0), Check.NONE);
        CHECK.due("sure(1) of two", two.sure(1), Check.NONE);
        two.said(1, 0);
        CHECK.due("sure(0) of two, as it was said", two.sure(0), 1);
        CHECK.due("sure(1) of two, as it was said", two.sure(1), 0);
    }

    private static void surePlaces() {
        CHECK.promise(23, "SURE: the place (from 0) of one in all of these.");
        LineToWreck x = with(CAPTAIN, MAN, MATE, BOY, MAN, MAN);
        CHECK.due("sure(0), the captain", x.sure(0), 5);
        x.said(5, 4);
        x.behind(3, 4, true);
        x.said(3, 2);
        x.behind(1, 2, true);
        int[] places = {5, 4, 3, 2, 1, 0};
        for (int man = 0; man < 6; man++) {
            CHECK.due("sure(" + man + ")", x.sure(man), places[man]);
        }
    }

    private static void sureInAllOfThem() {
        CHECK.promise(23, "SURE; NONE: it is not");
        LineToWreck x = with(CAPTAIN, MAN, MATE, BOY);
        CHECK.due("sure(1)", x.sure(1), Check.NONE);
        x.said(2, 1);
        CHECK.due("sure(2), which could be in the middle", x.sure(2), Check.NONE);
        x.said(2, 3);
        CHECK.due("sure(2) of two orders", x.sure(2), 0);
        CHECK.due("sure(3) of two orders", x.sure(3), Check.NONE);
        CHECK.due("sure(1) of two orders", x.sure(1), Check.NONE);
        CHECK.due("sure(0) of two orders", x.sure(0), 3);
        // one in the middle of two who could change their places
        LineToWreck y = with(MAN, MAN, MAN, MAN, MAN);
        y.said(0, 2);
        y.said(1, 2);
        y.said(2, 3);
        y.said(2, 4);
        CHECK.due("orders()", y.orders(), 4);
        CHECK.due("sure(2) in the middle", y.sure(2), 2);
        CHECK.due("sure(0)", y.sure(0), Check.NONE);
        CHECK.due("sure(4)", y.sure(4), Check.NONE);
    }

    private static void sureOfNoOrders() {
        CHECK.promise(23, "or there are no ORDERS.");
        LineToWreck x = with(CAPTAIN, MAN, MAN);
        x.said(1, 2);
        x.behind(1, 2, true);
        for (int man = 0; man < 3; man++) {
            CHECK.due("sure(" + man + ") beside a circle", x.sure(man), Check.NONE);
        }
        LineToWreck y = with(MAN, MAN, MAN);
        y.said(1, 2);
        y.said(2, 1);
        CHECK.due("sure(0), who is in no circle", y.sure(0), Check.NONE);
    }

    private static void sureUnknown() {
        CHECK.promise(23, "UNKNOWN.");
        for (int man : new int[] {-1, 3, 6, Check.LEAST, Check.MOST}) {
            CHECK.refused("sure(" + man + ")", Check::onTheWay, Check.UNKNOWN, x -> x.sure(man));
        }
        CHECK.refused("sure(0) as there is none", SaidTest::with, Check.UNKNOWN, x -> x.sure(0));
        LineToWreck x = with(MAN, MAN);
        x.said(0, 1);
        x.said(1, 0);
        CHECK.due("sure(2) of no orders", x.sure(2), Check.UNKNOWN);
    }
}
