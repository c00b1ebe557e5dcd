/** Promises 12 to 16: men, what is told of them, who comes BEHIND whom, and THE HAWSER. */
public final class MenTest {
    private static final int MAN = 0, BOY = 1, MATE = 2, HURT = 3, CAPTAIN = 4;
    private static final int[][] OUTSIDE_MEN = {{-1, 1}, {5, 1}, {0, 0}, {0, 31}, {0, -1}, {Check.LEAST, 1},
            {Check.MOST, 1}, {0, Check.LEAST}, {0, Check.MOST}};
    private static final Check CHECK = new Check();

    public static void main(String[] args) {
        manNumbers();
        manLeastAndMost();
        manOutside();
        manWithoutNight();
        manFull();
        manRefusalsInOrder();
        manAtAnyTime();

        aboutKindAndWeight();
        aboutMinutes();
        aboutMinutesByWeight();
        aboutMinutesOfBoys();
        aboutMinutesOfTheHurt();
        aboutMinutesOfThoseWhoSag();
        aboutSags();
        aboutWhoSags();
        aboutFirstHawser();
        aboutWhoIsOver();
        aboutWhenHeWasOver();
        aboutWhoMayCome();
        aboutUnknown();
        aboutOutside();
        aboutRefusalsInOrder();

        asKinds();
        asUnknown();
        asOutside();
        asRefusalsInOrder();

        behindTellsWhatWas();
        behindHoldsFromNowOn();
        behindEachOther();
        behindUnknown();
        behindAtAnyTime();

        hawserTellsWhatWas();
        hawserLeastAndMost();
        hawserOutside();
        hawserWithoutNight();
        hawserRefusalsInOrder();
        hawserAtAnyTime();
        CHECK.end("MenTest");
    }

    /** THE LINE is there in MINUTE 0 of 15; a man of up to 60 does not sag by THE HAWSER of 60. */
    private static LineToWreck with(int... kindsAndWeights) {
        LineToWreck x = Check.night("50:0:091:000");
        x.rocket(50, 0);
        x.fire(0, 0);
        for (int i = 0; i < kindsAndWeights.length; i += 2) {
            x.man(kindsAndWeights[i], kindsAndWeights[i + 1]);
        }
        return x;
    }

    private static LineToWreck sixMen() {
        return with(MAN, 1, BOY, 2, MATE, 3, HURT, 4, CAPTAIN, 5, MAN, 6);
    }

    // ---- promise 12

    private static void manNumbers() {
        CHECK.promise(12, "A MAN: his number.");
        LineToWreck x = with();
        for (int i = 0; i < 6; i++) {
            CHECK.due("man " + i, x.man(MAN, 10 + i), i);
            CHECK.due("count(2)", x.count(2), i + 1);
        }
        CHECK.due("about(4, 1), by his number", x.about(4, 1), 14);
    }

    private static void manLeastAndMost() {
        CHECK.promise(12, "are of KINDS: 0 MAN, 1 BOY, 2 MATE, 3 HURT, 4 CAPTAIN, each with a WEIGHT (1 to 30).");
        LineToWreck x = with();
        CHECK.due("man(0, 1)", x.man(0, 1), 0);
        CHECK.due("man(4, 30)", x.man(4, 30), 1);
        CHECK.due("man(4, 1)", x.man(4, 1), 2);
        CHECK.due("man(0, 30)", x.man(0, 30), 3);
        CHECK.due("about(0, 0)", x.about(0, 0), 0);
        CHECK.due("about(0, 1)", x.about(0, 1), 1);
        CHECK.due("about(1, 0)", x.about(1, 0), 4);
        CHECK.due("about(1, 1)", x.about(1, 1), 30);
    }

    private static void manOutside() {
        CHECK.promise(12, "OUTSIDE: kind, weight");
        for (int[] o : OUTSIDE_MEN) {
            CHECK.refused("man(" + o[0] + ", " + o[1] + ")", Check::onTheWay, Check.OUTSIDE, x -> x.man(o[0], o[1]));
        }
    }

    private static void manWithoutNight() {
        CHECK.promise(12, "STATE: no NIGHT");
        CHECK.refused("man(0, 1)", LineToWreck::new, Check.STATE, x -> x.man(0, 1));
    }

    private static void manFull() {
        CHECK.promise(12, "MEN (6 at most, numbered)");
        CHECK.due("count(2) of six", sixMen().count(2), 6);
        CHECK.promise(12, "FULL.");
        CHECK.refused("a seventh man", MenTest::sixMen, Check.FULL, x -> x.man(MAN, 1));
        LineToWreck x = sixMen();
        x.come(0);
        CHECK.due("a seventh man when one is over", x.man(MAN, 1), Check.FULL);
    }

    private static void manRefusalsInOrder() {
        CHECK.promise(12, "OUTSIDE: kind, weight; STATE: no NIGHT; FULL.");
        for (int[] o : OUTSIDE_MEN) {
            String call = "man(" + o[0] + ", " + o[1] + ")";
            CHECK.due(call + " without a night", new LineToWreck().man(o[0], o[1]), Check.OUTSIDE);
            CHECK.due(call + " as a seventh one", sixMen().man(o[0], o[1]), Check.OUTSIDE);
        }
    }

    private static void manAtAnyTime() {
        CHECK.promise(12, "A MAN: his number.");
        CHECK.due("man(0, 1) when the line is there", Check.onTheWay().man(MAN, 1), 3);
        CHECK.due("man(0, 1) when she has broken", Check.broken().man(MAN, 1), 3);
    }

    // ---- promise 13

    private static void aboutKindAndWeight() {
        CHECK.promise(13, "Of a MAN: what = 0 KIND, 1 WEIGHT");
        LineToWreck x = with(MAN, 30, BOY, 29, MATE, 28, HURT, 27, CAPTAIN, 26);
        for (int man = 0; man <= 4; man++) {
            CHECK.due("about(" + man + ", 0)", x.about(man, 0), man);
            CHECK.due("about(" + man + ", 1)", x.about(man, 1), 30 - man);
        }
    }

    private static void takes(int kind, int weight, int want) {
        LineToWreck x = with(kind, weight);
        CHECK.due("minutes of kind " + kind + ", weight " + weight, x.about(0, 2), want);
    }

    private static void aboutMinutes() {
        CHECK.promise(13, "2 how many MINUTES he takes");
        LineToWreck x = with(MAN, 10, HURT, 30);
        CHECK.due("about(0, 2)", x.about(0, 2), 4);
        CHECK.due("about(1, 2)", x.about(1, 2), 11);
        x.come(0);
        CHECK.due("about(0, 2) of one who is over", x.about(0, 2), 4);
    }

    private static void aboutMinutesByWeight() {
        CHECK.promise(13, "One takes 2 MINUTES to come over, and 1 for each 5 of WEIGHT (rounded down)");
        for (int kind : new int[] {MAN, MATE, CAPTAIN}) {
            takes(kind, 1, 2);
            takes(kind, 4, 2);
            takes(kind, 5, 3);
            takes(kind, 9, 3);
            takes(kind, 10, 4);
            takes(kind, 24, 6);
            takes(kind, 25, 7);
            takes(kind, 29, 7);
            takes(kind, 30, 8);
        }
    }

    private static void aboutMinutesOfBoys() {
        CHECK.promise(13, "a BOY half of that (rounded up)");
        takes(BOY, 1, 1);
        takes(BOY, 4, 1);
        takes(BOY, 5, 2);
        takes(BOY, 10, 2);
        takes(BOY, 14, 2);
        takes(BOY, 15, 3);
        takes(BOY, 29, 4);
        takes(BOY, 30, 4);
    }

    private static void aboutMinutesOfTheHurt() {
        CHECK.promise(13, "a HURT one 3 more.");
        takes(HURT, 1, 5);
        takes(HURT, 4, 5);
        takes(HURT, 5, 6);
        takes(HURT, 30, 11);
    }

    private static void aboutMinutesOfThoseWhoSag() {
        CHECK.promise(13, "One who SAGS takes 2 more still");
        int[] wants = {8, 4, 8, 11, 8};
        for (int kind = MAN; kind <= CAPTAIN; kind++) {
            LineToWreck x = with(kind, 30);
            x.hawser(29);
            CHECK.due("minutes of kind " + kind + " by a hawser of 29", x.about(0, 2), wants[kind] + 2);
            x.hawser(30);
            CHECK.due("minutes of kind " + kind + " by a hawser of 30", x.about(0, 2), wants[kind]);
        }
        // a BOY's two more are not halved: half of 3, rounded up, and 2
        LineToWreck boy = with(BOY, 5);
        boy.hawser(0);
        CHECK.due("minutes of a boy who sags", boy.about(0, 2), 4);
    }

    private static void sags(String far, int weight, int hawser, int want) {
        LineToWreck x = Check.night(far + ":0:091:000");
        x.man(MAN, weight);
        x.hawser(hawser);
        CHECK.due("whether " + weight + " sags by " + hawser + " at " + far, x.about(0, 3), want);
    }

    private static void aboutSags() {
        CHECK.promise(13, "3 whether he SAGS (1, 0)");
        LineToWreck x = with(MAN, 10, MAN, 11);
        x.hawser(10);
        CHECK.due("about(0, 3)", x.about(0, 3), 0);
        CHECK.due("about(1, 3)", x.about(1, 3), 1);
    }

    private static void aboutWhoSags() {
        CHECK.promise(13, "whose WEIGHT times FAR, by 50 (rounded down), is above THE HAWSER");
        // 30 times 99 by 50 is 59 and a rest
        sags("99", 30, 60, 0);
        sags("99", 30, 59, 0);
        sags("99", 30, 58, 1);
        // 1 times 99 by 50 is 1 and a rest
        sags("99", 1, 1, 0);
        sags("99", 1, 0, 1);
        sags("49", 1, 0, 0);
        sags("50", 1, 0, 1);
        sags("50", 1, 1, 0);
        sags("10", 4, 0, 0);
        sags("10", 5, 0, 1);
        sags("50", 30, 30, 0);
        sags("50", 30, 29, 1);
    }

    private static void aboutFirstHawser() {
        CHECK.promise(13, "THE HAWSER (0 to 60; 60 at first).");
        LineToWreck x = Check.night("99:0:091:000");
        x.man(HURT, 30);
        CHECK.due("whether the heaviest one sags farthest off", x.about(0, 3), 0);
        CHECK.due("his minutes", x.about(0, 2), 11);
    }

    private static void aboutWhoIsOver() {
        CHECK.promise(13, "4 whether he is over");
        LineToWreck x = with(MAN, 10, MAN, 10);
        CHECK.due("about(0, 4)", x.about(0, 4), 0);
        x.come(0);
        CHECK.due("about(0, 4)", x.about(0, 4), 1);
        CHECK.due("about(1, 4)", x.about(1, 4), 0);
        x.breaks();
        CHECK.due("about(0, 4) when she has broken", x.about(0, 4), 1);
        CHECK.due("about(1, 4) when she has broken", x.about(1, 4), 0);
    }

    private static void aboutWhenHeWasOver() {
        CHECK.promise(13, "5 the MINUTE when he was (NONE: he is not)");
        LineToWreck x = with(MAN, 10, MAN, 20);
        CHECK.due("about(0, 5)", x.about(0, 5), Check.NONE);
        x.come(0);
        CHECK.due("about(0, 5)", x.about(0, 5), 4);
        CHECK.due("about(1, 5)", x.about(1, 5), Check.NONE);
        x.minutes(1);
        x.come(1);
        CHECK.due("about(0, 5), as it was", x.about(0, 5), 4);
        CHECK.due("about(1, 5)", x.about(1, 5), 11);
    }

    private static void aboutWhoMayCome() {
        CHECK.promise(13, "6 whether he MAY COME.");
        LineToWreck x = with(MAN, 10, CAPTAIN, 10);
        CHECK.due("about(0, 6)", x.about(0, 6), 1);
        CHECK.due("about(1, 6)", x.about(1, 6), 0);
        x.come(0);
        CHECK.due("about(0, 6)", x.about(0, 6), 0);
        CHECK.due("about(1, 6)", x.about(1, 6), 1);
    }

    private static void aboutUnknown() {
        CHECK.promise(13, "UNKNOWN");
        for (int man : new int[] {-1, 3, 6, Check.LEAST, Check.MOST}) {
            CHECK.refused("about(" + man + ", 0)", Check::onTheWay, Check.UNKNOWN, x -> x.about(man, 0));
        }
        CHECK.refused("about(0, 0) as there is none", MenTest::with, Check.UNKNOWN, x -> x.about(0, 0));
        CHECK.refused("about(6, 0) of six", MenTest::sixMen, Check.UNKNOWN, x -> x.about(6, 0));
        CHECK.due("about(5, 1) of six", sixMen().about(5, 1), 6);
    }

    private static void aboutOutside() {
        CHECK.promise(13, "OUTSIDE");
        for (int what : new int[] {-1, 7, Check.LEAST, Check.MOST}) {
            CHECK.refused("about(0, " + what + ")", Check::onTheWay, Check.OUTSIDE, x -> x.about(0, what));
        }
    }

    private static void aboutRefusalsInOrder() {
        CHECK.promise(13, "UNKNOWN; OUTSIDE.");
        CHECK.due("about(3, 7)", Check.onTheWay().about(3, 7), Check.UNKNOWN);
        CHECK.due("about(-1, -1)", Check.onTheWay().about(-1, -1), Check.UNKNOWN);
        CHECK.due("about(0, 7) without a night", new LineToWreck().about(0, 7), Check.UNKNOWN);
    }

    // ---- promise 14

    private static void asKinds() {
        CHECK.promise(14, "All are MEN; a CAPTAIN is a MATE, too.");
        boolean[][] are = {
            {true, false, false, false, false},
            {true, true, false, false, false},
            {true, false, true, false, false},
            {true, false, false, true, false},
            {true, false, true, false, true}};
        for (int kind = MAN; kind <= CAPTAIN; kind++) {
            // his number is not that of his KIND
            LineToWreck x = with(MAN, 1, (kind + 1) % 5, 1, (kind + 2) % 5, 1, (kind + 3) % 5, 1, (kind + 4) % 5, 1, kind, 1);
            CHECK.promise(14, "A MAN taken as a KIND: his own number, not that of the KIND");
            CHECK.due("as(5, " + kind + ") of kind " + kind, x.as(5, kind), 5);
            CHECK.due("as(5, 0) of kind " + kind, x.as(5, MAN), 5);
            CHECK.promise(14, "NONE: he is none such (the cast fails)");
            for (int other = MAN; other <= CAPTAIN; other++) {
                CHECK.due("as(5, " + other + ") of kind " + kind, x.as(5, other), are[kind][other] ? 5 : Check.NONE);
            }
        }
    }

    private static void asUnknown() {
        CHECK.promise(14, "UNKNOWN");
        for (int man : new int[] {-1, 3, 6, Check.LEAST, Check.MOST}) {
            CHECK.refused("as(" + man + ", 0)", Check::onTheWay, Check.UNKNOWN, x -> x.as(man, 0));
        }
        CHECK.refused("as(0, 0) as there is none", MenTest::with, Check.UNKNOWN, x -> x.as(0, 0));
    }

    private static void asOutside() {
        CHECK.promise(14, "OUTSIDE");
        for (int kind : new int[] {-1, 5, Check.LEAST, Check.MOST}) {
            CHECK.refused("as(0, " + kind + ")", Check::onTheWay, Check.OUTSIDE, x -> x.as(0, kind));
        }
    }

    private static void asRefusalsInOrder() {
        CHECK.promise(14, "UNKNOWN; OUTSIDE.");
        CHECK.due("as(3, 5)", Check.onTheWay().as(3, 5), Check.UNKNOWN);
        CHECK.due("as(-1, -1)", Check.onTheWay().as(-1, -1), Check.UNKNOWN);
        CHECK.due("as(0, 5) without a night", new LineToWreck().as(0, 5), Check.UNKNOWN);
    }

    // ---- promise 15

    private static void behindTellsWhatWas() {
        CHECK.promise(15, "One comes only BEHIND another one, or not so any more: whether it was so (1, 0).");
        LineToWreck x = sixMen();
        CHECK.due("behind(0, 5, false), which never was", x.behind(0, 5, false), 0);
        CHECK.due("behind(0, 5, true)", x.behind(0, 5, true), 0);
        CHECK.due("behind(0, 5, true) again", x.behind(0, 5, true), 1);
        CHECK.due("behind(5, 0, true), the other way", x.behind(5, 0, true), 0);
        CHECK.due("behind(0, 4, false), another one", x.behind(0, 4, false), 0);
        CHECK.due("behind(0, 5, false)", x.behind(0, 5, false), 1);
        CHECK.due("behind(0, 5, false) again", x.behind(0, 5, false), 0);
        CHECK.due("behind(5, 0, false), which stayed", x.behind(5, 0, false), 1);
        CHECK.due("behind(4, 0, false), a captain, of whom it was not told", x.behind(4, 0, false), 0);
    }

    private static void behindHoldsFromNowOn() {
        CHECK.promise(15, "One comes only BEHIND another one, or not so any more");
        LineToWreck x = with(MAN, 1, MAN, 1, MAN, 1);
        x.behind(0, 1, true);
        x.behind(0, 2, true);
        CHECK.due("about(0, 6)", x.about(0, 6), 0);
        CHECK.due("orders()", x.orders(), 2);
        x.behind(0, 1, false);
        CHECK.due("about(0, 6), as he comes behind 2 still", x.about(0, 6), 0);
        CHECK.due("orders()", x.orders(), 3);
        x.behind(0, 2, false);
        CHECK.due("about(0, 6)", x.about(0, 6), 1);
        CHECK.due("orders()", x.orders(), 6);
    }

    private static void behindEachOther() {
        CHECK.promise(15, "UNKNOWN: a, b, or they are the same.");
        LineToWreck x = with(MAN, 1, MAN, 1);
        x.behind(0, 1, true);
        CHECK.due("behind(1, 0, true), which is no refusal", x.behind(1, 0, true), 0);
        CHECK.due("about(0, 6)", x.about(0, 6), 0);
        CHECK.due("about(1, 6)", x.about(1, 6), 0);
        CHECK.due("orders()", x.orders(), 0);
    }

    private static void behindUnknown() {
        CHECK.promise(15, "UNKNOWN: a, b, or they are the same.");
        int[][] unknown = {{-1, 0}, {3, 0}, {0, -1}, {0, 3}, {0, 0}, {2, 2}, {3, 3}, {-1, -1}, {Check.LEAST, 0},
                {0, Check.MOST}, {32, 0}, {0, 33}};
        for (int[] u : unknown) {
            for (boolean is : new boolean[] {true, false}) {
                CHECK.refused("behind(" + u[0] + ", " + u[1] + ", " + is + ")", Check::onTheWay, Check.UNKNOWN,
                        x -> x.behind(u[0], u[1], is));
            }
        }
        CHECK.refused("behind(5, 6, true) of six", MenTest::sixMen, Check.UNKNOWN, x -> x.behind(5, 6, true));
        CHECK.due("behind(5, 0, true) of six", sixMen().behind(5, 0, true), 0);
    }

    private static void behindAtAnyTime() {
        CHECK.promise(15, "One comes only BEHIND another one, or not so any more: whether it was so (1, 0).");
        LineToWreck x = Check.broken();
        CHECK.due("behind(2, 0, true) when she has broken", x.behind(2, 0, true), 0);
        CHECK.due("behind(0, 1, false) behind one who is over", x.behind(0, 1, false), 1);
    }

    // ---- promise 16

    private static void hawserTellsWhatWas() {
        CHECK.promise(16, "THE HAWSER becomes v: what it was.");
        LineToWreck x = with();
        CHECK.due("hawser(7)", x.hawser(7), 60);
        CHECK.due("count(8)", x.count(8), 7);
        CHECK.due("hawser(7) again", x.hawser(7), 7);
        CHECK.due("hawser(30)", x.hawser(30), 7);
    }

    private static void hawserLeastAndMost() {
        CHECK.promise(16, "OUTSIDE: v (0 to 60)");
        LineToWreck x = with();
        CHECK.due("hawser(0)", x.hawser(0), 60);
        CHECK.due("count(8)", x.count(8), 0);
        CHECK.due("hawser(60)", x.hawser(60), 0);
        CHECK.due("count(8)", x.count(8), 60);
    }

    private static void hawserOutside() {
        CHECK.promise(16, "OUTSIDE: v (0 to 60)");
        for (int v : new int[] {-1, 61, Check.LEAST, Check.MOST}) {
            CHECK.refused("hawser(" + v + ")", Check::onTheWay, Check.OUTSIDE, x -> x.hawser(v));
        }
    }

    private static void hawserWithoutNight() {
        CHECK.promise(16, "STATE: no NIGHT.");
        CHECK.refused("hawser(0)", LineToWreck::new, Check.STATE, x -> x.hawser(0));
        CHECK.refused("hawser(60)", LineToWreck::new, Check.STATE, x -> x.hawser(60));
    }

    private static void hawserRefusalsInOrder() {
        CHECK.promise(16, "OUTSIDE: v (0 to 60); STATE: no NIGHT.");
        CHECK.due("hawser(-1) without a night", new LineToWreck().hawser(-1), Check.OUTSIDE);
        CHECK.due("hawser(61) without a night", new LineToWreck().hawser(61), Check.OUTSIDE);
    }

    private static void hawserAtAnyTime() {
        CHECK.promise(16, "THE HAWSER becomes v: what it was.");
        LineToWreck x = Check.broken();
        CHECK.due("hawser(8) when she has broken", x.hawser(8), 7);
        CHECK.due("count(8)", x.count(8), 8);
    }
}
