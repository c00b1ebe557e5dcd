/** Promises 12 to 20: men, how they come over, and in what order. */
public final class MenTest {
    private static final int NONE = -1, UNKNOWN = -101, OUTSIDE = -102, STATE = -103, FULL = -104;
    private static final int MAN = 0, BOY = 1, MATE = 2, HURT = 3, CAPTAIN = 4;
    private static final Check CHECK = new Check();

    public static void main(String[] args) {
        man();
        about();
        sags();
        as();
        behind();
        hawser();
        come();
        comeInTime();
        captains();
        minutes();
        breaks();
        order();
        orderEdges();
        orderRefusals();
        CHECK.end("MenTest");
    }

    /** The line is there in MINUTE 0. */
    private static LineToWreck withLine(String tenths) {
        LineToWreck x = Check.night("50:0:091:" + tenths);
        x.rocket(50, 0);
        x.fire(0, 0);
        return x;
    }

    private static void man() {
        LineToWreck none = new LineToWreck();
        CHECK.due("no night: man(5, 1)", none.man(5, 1), OUTSIDE);
        CHECK.due("no night: man(0, 1)", none.man(0, 1), STATE);
        LineToWreck x = withLine("000");
        int[][] outside = {{-1, 1}, {5, 1}, {0, 0}, {0, 31}, {Integer.MAX_VALUE, 1}, {0, Integer.MIN_VALUE}};
        for (int[] o : outside) {
            CHECK.refused(x, "man(" + o[0] + ", " + o[1] + ")", OUTSIDE, y -> y.man(o[0], o[1]));
        }
        for (int i = 0; i < 6; i++) {
            CHECK.due("man " + i, x.man(i % 5, i % 2 == 0 ? 1 : 30), i);
        }
        CHECK.refused(x, "a seventh man", FULL, y -> y.man(0, 1));
        CHECK.refused(x, "a seventh man outside", OUTSIDE, y -> y.man(0, 0));
        CHECK.due("count(2)", x.count(2), 6);
    }

    private static void takes(int kind, int weight, int want) {
        LineToWreck x = withLine("000");
        x.man(kind, weight);
        CHECK.due("kind " + kind, x.about(0, 0), kind);
        CHECK.due("weight " + weight, x.about(0, 1), weight);
        CHECK.due("minutes of kind " + kind + ", weight " + weight, x.about(0, 2), want);
        CHECK.due("sags", x.about(0, 3), 0);
        x.hawser(0);
        CHECK.due("sags by hawser 0", x.about(0, 3), 1);
        CHECK.due("minutes by hawser 0", x.about(0, 2), want + 2);
    }

    private static void about() {
        takes(MAN, 1, 2);
        takes(MAN, 4, 2);
        takes(MAN, 5, 3);
        takes(MAN, 30, 8);
        takes(BOY, 1, 1);
        takes(BOY, 5, 2);
        takes(BOY, 10, 2);
        takes(BOY, 15, 3);
        takes(BOY, 30, 4);
        takes(MATE, 22, 6);
        takes(HURT, 1, 5);
        takes(HURT, 29, 10);
        takes(CAPTAIN, 14, 4);
        LineToWreck x = withLine("000");
        x.man(MAN, 10);
        x.man(MAN, 20);
        CHECK.due("over", x.about(0, 4), 0);
        CHECK.due("over at", x.about(0, 5), NONE);
        CHECK.due("may come", x.about(0, 6), 1);
        x.come(0);
        CHECK.due("over", x.about(0, 4), 1);
        CHECK.due("over at", x.about(0, 5), 4);
        CHECK.due("may come", x.about(0, 6), 0);
        x.minutes(1);
        x.come(1);
        CHECK.due("over at", x.about(0, 5), 4);
        CHECK.due("over at", x.about(1, 5), 11);
        CHECK.refused(x, "about(2, 0)", UNKNOWN, y -> y.about(2, 0));
        CHECK.refused(x, "about(-1, 7)", UNKNOWN, y -> y.about(-1, 7));
        CHECK.refused(x, "about(0, 7)", OUTSIDE, y -> y.about(0, 7));
        CHECK.refused(x, "about(0, -1)", OUTSIDE, y -> y.about(0, -1));
    }

    private static void sags() {
        LineToWreck x = Check.night("99:0:091:0");
        x.man(MAN, 30);
        x.man(MAN, 1);
        // 30 times 99 by 50 is 59 and a rest; 1 times 99 by 50 is 1 and a rest
        CHECK.due("sags by 60", x.about(0, 3), 0);
        x.hawser(59);
        CHECK.due("sags by 59", x.about(0, 3), 0);
        x.hawser(58);
        CHECK.due("sags by 58", x.about(0, 3), 1);
        x.hawser(1);
        CHECK.due("the light one by 1", x.about(1, 3), 0);
        x.hawser(0);
        CHECK.due("the light one by 0", x.about(1, 3), 1);
        LineToWreck near = Check.night("10:0:091:0");
        near.man(MAN, 4);
        near.man(MAN, 5);
        near.hawser(0);
        CHECK.due("4 times 10 by 50", near.about(0, 3), 0);
        CHECK.due("5 times 10 by 50", near.about(1, 3), 1);
    }

    private static void as() {
        LineToWreck x = withLine("000");
        for (int kind = 0; kind <= 4; kind++) {
            x.man(kind, 10);
        }
        for (int man = 0; man <= 4; man++) {
            for (int kind = 0; kind <= 4; kind++) {
                boolean is = kind == MAN || kind == man || man == CAPTAIN && kind == MATE;
                CHECK.due("as(" + man + ", " + kind + ")", x.as(man, kind), is ? man : NONE);
            }
        }
        CHECK.refused(x, "as(5, 0)", UNKNOWN, y -> y.as(5, 0));
        CHECK.refused(x, "as(-1, 9)", UNKNOWN, y -> y.as(-1, 9));
        CHECK.refused(x, "as(0, 5)", OUTSIDE, y -> y.as(0, 5));
        CHECK.refused(x, "as(0, -1)", OUTSIDE, y -> y.as(0, -1));
    }

    private static void behind() {
        LineToWreck x = withLine("000");
        x.man(MAN, 10);
        x.man(BOY, 10);
        x.man(HURT, 10);
        CHECK.due("behind(0, 1, true)", x.behind(0, 1, true), 0);
        CHECK.due("behind(0, 1, true) again", x.behind(0, 1, true), 1);
        CHECK.due("behind(0, 2, true)", x.behind(0, 2, true), 0);
        CHECK.due("behind(1, 0, false)", x.behind(1, 0, false), 0);
        CHECK.due("0 may come", x.about(0, 6), 0);
        CHECK.refused(x, "come(0)", STATE, y -> y.come(0));
        CHECK.due("come(1)", x.come(1), 2);
        CHECK.due("0 may come behind 1", x.about(0, 6), 0);
        CHECK.due("behind(0, 2, false)", x.behind(0, 2, false), 1);
        CHECK.due("behind(0, 2, false) again", x.behind(0, 2, false), 0);
        CHECK.due("0 may come behind 1", x.about(0, 6), 1);
        CHECK.due("come(0)", x.come(0), 6);
        CHECK.refused(x, "behind(0, 0, true)", UNKNOWN, y -> y.behind(0, 0, true));
        CHECK.refused(x, "behind(3, 0, true)", UNKNOWN, y -> y.behind(3, 0, true));
        CHECK.refused(x, "behind(0, 3, true)", UNKNOWN, y -> y.behind(0, 3, true));
        CHECK.refused(x, "behind(-1, 0, true)", UNKNOWN, y -> y.behind(-1, 0, true));
        CHECK.refused(x, "behind(0, -1, true)", UNKNOWN, y -> y.behind(0, -1, true));
        x.breaks();
        CHECK.due("behind when she has broken", x.behind(2, 0, true), 0);
    }

    private static void hawser() {
        LineToWreck none = new LineToWreck();
        CHECK.due("no night: hawser(61)", none.hawser(61), OUTSIDE);
        CHECK.due("no night: hawser(60)", none.hawser(60), STATE);
        LineToWreck x = withLine("000");
        CHECK.refused(x, "hawser(-1)", OUTSIDE, y -> y.hawser(-1));
        CHECK.refused(x, "hawser(61)", OUTSIDE, y -> y.hawser(61));
        CHECK.due("hawser(0)", x.hawser(0), 60);
        CHECK.due("hawser(60)", x.hawser(60), 0);
        CHECK.due("hawser(7)", x.hawser(7), 60);
        CHECK.due("count(8)", x.count(8), 7);
        x.breaks();
        CHECK.due("hawser(8) when she has broken", x.hawser(8), 7);
    }

    private static void come() {
        LineToWreck x = Check.night("50:0:091:000");
        x.rocket(50, 0);
        x.man(MAN, 10);
        x.man(BOY, 10);
        CHECK.refused(x, "come(0) without the line", STATE, y -> y.come(0));
        CHECK.due("may come without the line", x.about(0, 6), 0);
        x.fire(0, 0);
        CHECK.refused(x, "come(2)", UNKNOWN, y -> y.come(2));
        CHECK.refused(x, "come(-1)", UNKNOWN, y -> y.come(-1));
        x.minutes(3);
        CHECK.due("come(0)", x.come(0), 7);
        CHECK.due("count(4)", x.count(4), 7);
        CHECK.due("count(3)", x.count(3), 1);
        CHECK.refused(x, "come(0) again", STATE, y -> y.come(0));
        x.hawser(0);
        CHECK.due("come(1), who sags", x.come(1), 11);
        x.man(MAN, 1);
        x.breaks();
        CHECK.due("may come when she has broken", x.about(2, 6), 0);
        CHECK.refused(x, "come(2) when she has broken", STATE, y -> y.come(2));
    }

    private static void comeInTime() {
        LineToWreck x = withLine("9");
        x.man(MAN, 10);
        CHECK.due("over in minute 4 of 5", x.about(0, 6), 1);
        x.minutes(1);
        CHECK.due("over in minute 5 of 5", x.about(0, 6), 0);
        CHECK.refused(x, "come(0) too late", STATE, y -> y.come(0));
        LineToWreck y = withLine("99");
        y.man(MAN, 10);
        y.minutes(5);
        CHECK.due("over in minute 9 of 10", y.come(0), 9);
    }

    private static void captains() {
        LineToWreck x = withLine("000000");
        x.man(CAPTAIN, 10);
        x.man(MATE, 10);
        x.man(CAPTAIN, 5);
        CHECK.due("a captain ahead of a mate", x.about(0, 6), 0);
        CHECK.refused(x, "come(0)", STATE, y -> y.come(0));
        x.come(1);
        CHECK.due("a captain behind the mate", x.about(0, 6), 1);
        CHECK.due("the other captain", x.about(2, 6), 1);
        x.behind(0, 2, true);
        CHECK.due("a captain behind a captain", x.about(0, 6), 0);
        x.come(2);
        x.man(BOY, 1);
        CHECK.due("a captain when a boy is told", x.about(0, 6), 0);
        x.come(3);
        CHECK.due("come(0)", x.come(0), 12);
    }

    private static void minutes() {
        LineToWreck none = new LineToWreck();
        CHECK.due("no night: minutes(0)", none.minutes(0), OUTSIDE);
        CHECK.due("no night: minutes(1)", none.minutes(1), STATE);
        LineToWreck x = withLine("00");
        CHECK.refused(x, "minutes(0)", OUTSIDE, y -> y.minutes(0));
        CHECK.refused(x, "minutes(51)", OUTSIDE, y -> y.minutes(51));
        CHECK.refused(x, "minutes(50)", STATE, y -> y.minutes(50));
        CHECK.refused(x, "minutes(10)", STATE, y -> y.minutes(10));
        CHECK.due("minutes(8)", x.minutes(8), 8);
        CHECK.refused(x, "minutes(2)", STATE, y -> y.minutes(2));
        CHECK.due("minutes(1)", x.minutes(1), 9);
        CHECK.refused(x, "minutes(1) again", STATE, y -> y.minutes(1));
        LineToWreck longest = withLine("0000000000");
        CHECK.due("minutes(49)", longest.minutes(49), 49);
        LineToWreck broken = withLine("00");
        broken.breaks();
        CHECK.refused(broken, "minutes(1) when she has broken", STATE, y -> y.minutes(1));
        CHECK.refused(broken, "minutes(0) when she has broken", OUTSIDE, y -> y.minutes(0));
    }

    private static void breaks() {
        LineToWreck x = withLine("00");
        x.man(MAN, 1);
        x.man(MAN, 1);
        x.man(MAN, 1);
        x.come(1);
        CHECK.due("breaks()", x.breaks(), 2);
        CHECK.due("count(6)", x.count(6), 1);
        CHECK.refused(x, "breaks() again", STATE, LineToWreck::breaks);
    }

    private static void ordered(LineToWreck x, String of, long above, long below, int... men) {
        CHECK.due(of + ": order(0)", x.order(0), above);
        CHECK.due(of + ": order(1)", x.order(1), below);
        for (int i = 0; i < 6; i++) {
            CHECK.due(of + ": order(1" + i + ")", x.order(10 + i), i < men.length ? men[i] : NONE);
        }
    }

    private static void order() {
        LineToWreck x = withLine("55");
        x.man(MAN, 20);
        x.man(MAN, 5);
        // 1 in minute 3, 0 in minute 9
        ordered(x, "two men", 3, 2, 1, 0);
        x.behind(1, 0, true);
        // 0 in minute 6, 1 in minute 9
        ordered(x, "two men, one behind", 1, 1, 0, 1);
        x.come(0);
        // 1 in minute 9 of the stage from 5 on
        ordered(x, "one is over", 1, 1, 1);
        CHECK.due("count(13)", x.count(13), 24);
    }

    private static void orderEdges() {
        LineToWreck x = withLine("57");
        ordered(x, "no men", 0, 1);
        x.man(MAN, 15);
        // over in minute 5, when the first stage has ended
        ordered(x, "in the end of a stage", 1, 2, 0);
        x.minutes(5);
        // over in minute 10, when she has broken
        ordered(x, "in the end of all", 0, 1, 0);
        LineToWreck equal = Check.night("50:0:091:0");
        equal.man(CAPTAIN, 1);
        equal.man(MAN, 30);
        equal.man(HURT, 30);
        // no line yet; none is over in time: the first by numbers, captains behind
        ordered(equal, "none in time", 0, 1, 1, 2, 0);
        equal.behind(1, 0, true);
        ordered(equal, "no such order", NONE, 1);
        equal.behind(1, 0, false);
        equal.behind(1, 2, true);
        ordered(equal, "one behind", 0, 1, 2, 1, 0);
        LineToWreck late = withLine("00");
        late.man(BOY, 30);
        late.man(MAN, 1);
        late.man(MAN, 1);
        late.man(MAN, 1);
        // of like ones the first by numbers
        ordered(late, "one too many", 3, 1, 0, 1, 2, 3);
    }

    private static void orderRefusals() {
        LineToWreck none = new LineToWreck();
        CHECK.due("no night: order(2)", none.order(2), OUTSIDE);
        CHECK.due("no night: order(0)", none.order(0), STATE);
        LineToWreck x = withLine("00");
        for (int what : new int[] {-1, 2, 9, 16, Integer.MIN_VALUE, Integer.MAX_VALUE}) {
            CHECK.refused(x, "order(" + what + ")", OUTSIDE, y -> y.order(what));
        }
        x.image();
        x.breaks();
        CHECK.refused(x, "order(0) when she has broken", STATE, y -> y.order(0));
        x.restore();
        CHECK.due("count(13) behind refusals", x.count(13), 0);
        for (int i = 1; i <= 15; i++) {
            CHECK.due("order(15)", x.order(15), NONE);
            CHECK.due("count(13)", x.count(13), i);
        }
        x.image();
        Check.page(x, "50:0:091:1");
        x.night();
        for (int i = 16; i <= 30; i++) {
            CHECK.due("order(0)", x.order(0), 0);
            CHECK.due("count(13)", x.count(13), i);
        }
        CHECK.refused(x, "order(0), the 31st", STATE, y -> y.order(0));
        CHECK.refused(x, "order(2), the 31st", OUTSIDE, y -> y.order(2));
    }
}
