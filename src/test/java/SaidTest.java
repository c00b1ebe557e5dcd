/** Promises 21 to 23: what was said, and in what orders all could have come. */
public final class SaidTest {
    private static final int NONE = -1, UNKNOWN = -101, FULL = -104;
    private static final Check CHECK = new Check();

    public static void main(String[] args) {
        said();
        orders();
        sure();
        CHECK.end("SaidTest");
    }

    private static LineToWreck withMen(int... kinds) {
        LineToWreck x = Check.night("50:0:091:0000");
        for (int kind : kinds) {
            x.man(kind, 10);
        }
        return x;
    }

    private static void said() {
        LineToWreck x = withMen(0, 0, 0);
        CHECK.refused(x, "said(0, 0)", UNKNOWN, y -> y.said(0, 0));
        CHECK.refused(x, "said(3, 0)", UNKNOWN, y -> y.said(3, 0));
        CHECK.refused(x, "said(0, 3)", UNKNOWN, y -> y.said(0, 3));
        CHECK.refused(x, "said(-1, 0)", UNKNOWN, y -> y.said(-1, 0));
        CHECK.refused(x, "said(0, -1)", UNKNOWN, y -> y.said(0, -1));
        for (int i = 1; i <= 15; i++) {
            CHECK.due("said the " + i + ". time", x.said(i % 2 == 0 ? 0 : 1, 2), i);
        }
        CHECK.refused(x, "said the 16. time", FULL, y -> y.said(0, 1));
        CHECK.refused(x, "said(0, 0) when full", UNKNOWN, y -> y.said(0, 0));
        CHECK.due("count(9)", x.count(9), 15);
        x.breaks();
        CHECK.due("orders()", x.orders(), 2);
    }

    private static void orders() {
        int[] factorials = {1, 1, 2, 6, 24, 120, 720};
        LineToWreck x = withMen();
        for (int men = 0; men <= 6; men++) {
            CHECK.due("orders() of " + men, x.orders(), factorials[men]);
            x.man(men % 4, 10);
        }
        LineToWreck y = withMen(0, 4, 1, 4);
        CHECK.due("two captains behind two", y.orders(), 4);
        y.said(1, 3);
        CHECK.due("and one ahead of the other", y.orders(), 2);
        y.behind(0, 2, true);
        CHECK.due("and one behind the other", y.orders(), 1);
        y.behind(0, 2, false);
        y.said(3, 0);
        CHECK.due("and a captain ahead of a man", y.orders(), 0);
        LineToWreck over = withMen(0, 1, 2);
        over.rocket(50, 0);
        over.fire(0, 0);
        over.come(2);
        CHECK.due("orders() of all, though one is over", over.orders(), 6);
        over.said(0, 1);
        over.said(1, 0);
        CHECK.due("both ahead of one another", over.orders(), 0);
    }

    private static void sure() {
        LineToWreck x = withMen(4, 0, 2, 1);
        CHECK.due("sure(0), the captain", x.sure(0), 3);
        CHECK.due("sure(1)", x.sure(1), NONE);
        x.said(2, 1);
        x.behind(3, 1, true);
        CHECK.due("sure(2)", x.sure(2), 0);
        CHECK.due("sure(1)", x.sure(1), 1);
        CHECK.due("sure(3)", x.sure(3), 2);
        x.behind(3, 1, false);
        x.said(2, 3);
        CHECK.due("sure(2) of two orders", x.sure(2), 0);
        CHECK.due("sure(3) of two orders", x.sure(3), NONE);
        x.said(1, 2);
        CHECK.due("sure(0) of no orders", x.sure(0), NONE);
        CHECK.due("sure(2) of no orders", x.sure(2), NONE);
        CHECK.refused(x, "sure(4)", UNKNOWN, y -> y.sure(4));
        CHECK.refused(x, "sure(-1)", UNKNOWN, y -> y.sure(-1));
        LineToWreck circle = withMen(0, 0, 0);
        circle.said(1, 2);
        circle.behind(1, 2, true);
        CHECK.due("sure(0) beside a circle", circle.sure(0), NONE);
        LineToWreck two = withMen(0, 0);
        two.said(0, 1);
        CHECK.due("sure(0) of two", two.sure(0), 0);
        CHECK.due("sure(1) of two", two.sure(1), 1);
        LineToWreck one = withMen(1);
        CHECK.due("sure(0) of one", one.sure(0), 0);
    }
}
