/** Promise 20: an order of men by which most are over whenever SHE BREAKS. */
public final class OrderTest {
    private static final int MAN = 0, BOY = 1, HURT = 3, CAPTAIN = 4;
    private static final Check CHECK = new Check();

    public static void main(String[] args) {
        orderOfNobody();
        orderOfAllThatAreNotOver();
        orderWithoutTheLine();
        orderFromThisMinuteOn();
        orderFromThisStageOn();
        orderByTheMostInTheMean();
        orderAtTheEndOfAStage();
        orderAtTheEndOfTheLastStage();
        orderOfTheLeastChance();
        orderTheFirstByNumbers();
        orderBehind();
        orderOfCaptains();
        orderBySagging();
        noSuchOrder();
        orderOutside();
        orderWithoutNight();
        orderWhenBroken();
        orderThirtyTimesEver();
        orderRefusalsDoNotCount();
        orderAllElseCounts();
        orderRefusalsInOrder();
        CHECK.end("OrderTest");
    }

    /** THE LINE is not there; nobody SAGS. */
    private static LineToWreck with(String stages, int... kindsAndWeights) {
        LineToWreck x = Check.night("50:0:091:" + stages);
        x.rocket(50, 0);
        for (int i = 0; i < kindsAndWeights.length; i += 2) {
            x.man(kindsAndWeights[i], kindsAndWeights[i + 1]);
        }
        return x;
    }

    private static LineToWreck withLine(String stages, int... kindsAndWeights) {
        LineToWreck x = with(stages, kindsAndWeights);
        x.fire(0, 0);
        return x;
    }

    private static void ordered(LineToWreck x, String of, long above, long below, int... men) {
        CHECK.due(of + ": order(0)", x.order(0), above);
        CHECK.due(of + ": order(1)", x.order(1), below);
        for (int i = 0; i < 6; i++) {
            CHECK.due(of + ": order(1" + i + ")", x.order(10 + i), i < men.length ? men[i] : Check.NONE);
        }
    }

    private static void orderOfNobody() {
        CHECK.promise(20, "ORDER: what = 10 and i the so-manieth in it (NONE)");
        ordered(with("57"), "no men", 0, 1);
        LineToWreck over = withLine("57", MAN, 1);
        over.come(0);
        ordered(over, "nobody is left", 0, 1);
    }

    private static void orderOfAllThatAreNotOver() {
        CHECK.promise(20, "ORDER of all that are not over");
        LineToWreck x = withLine("55", MAN, 20, MAN, 5, MAN, 1);
        x.come(1);
        // 1 is over in minute 3; whoever comes next is by a half, and the other one too late
        ordered(x, "one is over", 1, 2, 0, 2);
        x.come(2);
        ordered(x, "two are over", 0, 1, 0);
        CHECK.promise(20, "ORDER: what = 10 and i the so-manieth in it (NONE)");
        ordered(with("0000000000", MAN, 1, MAN, 1, MAN, 1, MAN, 1, MAN, 1, MAN, 1), "six", 6, 1, 0, 1, 2, 3, 4, 5);
    }

    private static void orderWithoutTheLine() {
        CHECK.promise(20, "one in which they can come (THE LINE is there, or as if it was; from this MINUTE on)");
        ordered(with("55", MAN, 20, MAN, 5), "without the line", 3, 2, 1, 0);
        ordered(withLine("55", MAN, 20, MAN, 5), "with the line", 3, 2, 1, 0);
    }

    private static void orderFromThisMinuteOn() {
        CHECK.promise(20, "from this MINUTE on");
        LineToWreck x = with("50", MAN, 5);
        ordered(x, "over in minute 3", 1, 1, 0);
        x.minutes(1);
        ordered(x, "over in minute 4", 1, 1, 0);
        x.minutes(1);
        ordered(x, "over in minute 5", 1, 2, 0);
    }

    private static void orderFromThisStageOn() {
        CHECK.promise(20, "one is, if SHE has not BROKEN in the end of any STAGE from this one on");
        LineToWreck x = with("920", MAN, 15);
        ordered(x, "over in stage 1, from stage 0 on", 1, 10, 0);
        x.minutes(4);
        ordered(x, "over in minute 9, from stage 0 on", 1, 10, 0);
        x.minutes(1);
        ordered(x, "over in minute 10, from stage 1 on", 4, 5, 0);
    }

    private static void orderByTheMostInTheMean() {
        CHECK.promise(20, "by which it is most how many are over in the mean");
        LineToWreck x = with("55", MAN, 20, MAN, 5);
        // 1 in minute 3, 0 in minute 9; the other way 0 in minute 6, 1 in minute 9
        ordered(x, "two men", 3, 2, 1, 0);
        x.behind(1, 0, true);
        ordered(x, "two men, one behind", 1, 1, 0, 1);
        LineToWreck y = with("055", MAN, 20, MAN, 5, BOY, 30);
        // any two in minute 9 or before, the last one in minute 13
        ordered(y, "three men", 5, 2, 0, 1, 2);
        LineToWreck z = with("505", MAN, 20, MAN, 5, BOY, 10);
        // but one is over ahead of the end of STAGE 0, each of the others by a half; if 0 is first, not even one
        ordered(z, "three others", 2, 1, 1, 0, 2);
    }

    private static void orderAtTheEndOfAStage() {
        CHECK.promise(20, "that ends no later than the MINUTE when he is over");
        ordered(with("57", MAN, 10), "over in minute 4", 1, 1, 0);
        ordered(with("57", MAN, 15), "over in minute 5", 1, 2, 0);
        LineToWreck x = with("000700", HURT, 30, HURT, 20);
        ordered(x, "over in minutes 11 and 20", 13, 10, 0, 1);
        x.behind(0, 1, true);
        ordered(x, "over in minutes 9 and 20", 13, 10, 1, 0);
        LineToWreck y = with("000700", HURT, 30, HURT, 15);
        ordered(y, "over in minutes 11 and 19, the first by numbers", 2, 1, 0, 1);
    }

    private static void orderAtTheEndOfTheLastStage() {
        CHECK.promise(20, "(in the end of the last one SHE has)");
        LineToWreck x = with("0", MAN, 10);
        ordered(x, "over in minute 4 of 5", 1, 1, 0);
        x.minutes(1);
        ordered(x, "over in minute 5 of 5", 0, 1, 0);
        ordered(with("0", MAN, 30), "over in minute 8 of 5", 0, 1, 0);
        ordered(with("0", MAN, 10, MAN, 1), "over in minutes 2 and 6 of 5", 1, 1, 0, 1);
        LineToWreck ten = with("0000000000", MAN, 10);
        ten.minutes(45);
        ordered(ten, "over in minute 49 of 50", 1, 1, 0);
        ten.minutes(1);
        ordered(ten, "over in minute 50 of 50", 0, 1, 0);
    }

    private static void orderOfTheLeastChance() {
        CHECK.promise(20, "0 and 1 how many are over in the mean, in lowest terms: above, below.");
        LineToWreck x = with("9999999999", HURT, 30, HURT, 30, HURT, 30, MAN, 20);
        x.hawser(0);
        x.behind(1, 0, true);
        x.behind(2, 1, true);
        x.behind(3, 2, true);
        // over in minutes 13, 26, 39 and 47, when two, five, seven and nine STAGES have ended
        ordered(x, "one behind the other", 10010101, 1000000000, 0, 1, 2, 3);
        ordered(with("2", MAN, 1, MAN, 1), "two for sure", 2, 1, 0, 1);
    }

    private static void orderTheFirstByNumbers() {
        CHECK.promise(20, "of like ones the first by numbers.");
        ordered(with("9999", MAN, 1, MAN, 1), "two alike", 2, 1, 0, 1);
        // the last one is too late; each could be first, and the first by numbers is
        ordered(with("00", BOY, 30, MAN, 1, MAN, 1, MAN, 1), "one too many", 3, 1, 0, 1, 2, 3);
        LineToWreck late = with("0", MAN, 30, MAN, 30, MAN, 30);
        ordered(late, "none in time", 0, 1, 0, 1, 2);
        late.behind(0, 2, true);
        ordered(late, "none in time, one behind", 0, 1, 1, 2, 0);
    }

    private static void orderBehind() {
        CHECK.promise(20, "one in which they can come");
        LineToWreck x = with("55", MAN, 1, MAN, 20, MAN, 1);
        x.behind(0, 1, true);
        // 2 in minute 2, 1 in minute 8, 0 in minute 10, too late
        ordered(x, "one behind a heavy one", 3, 2, 2, 1, 0);
        x.behind(2, 0, true);
        // 1 in minute 6, 0 in minute 8, 2 in minute 10, too late
        ordered(x, "another one behind him", 1, 1, 1, 0, 2);
        LineToWreck over = withLine("0000", MAN, 1, MAN, 1, MAN, 1);
        over.behind(1, 2, true);
        over.come(2);
        ordered(over, "behind one who is over", 2, 1, 0, 1);
    }

    private static void orderOfCaptains() {
        CHECK.promise(20, "one in which they can come");
        ordered(with("55", CAPTAIN, 1, MAN, 20, CAPTAIN, 1), "two captains", 1, 1, 1, 0, 2);
        LineToWreck x = withLine("0000", CAPTAIN, 1, MAN, 1);
        x.come(1);
        x.come(0);
        x.man(MAN, 1);
        x.man(CAPTAIN, 1);
        ordered(x, "one captain is over", 2, 1, 2, 3);
    }

    private static void orderBySagging() {
        CHECK.promise(20, "by which it is most how many are over in the mean");
        LineToWreck x = with("50", MAN, 10);
        ordered(x, "over in minute 4", 1, 1, 0);
        x.hawser(9);
        ordered(x, "over in minute 6, as he sags", 1, 2, 0);
    }

    private static LineToWreck circle() {
        LineToWreck x = withLine("0000", MAN, 1, MAN, 1, MAN, 1);
        x.behind(0, 1, true);
        x.behind(1, 0, true);
        return x;
    }

    private static void noSuchOrder() {
        CHECK.promise(20, "NONE: there is no such order (0 and 10 to 15; below 1).");
        ordered(circle(), "one behind the other and back", Check.NONE, 1);
        LineToWreck x = with("0000", CAPTAIN, 1, MAN, 1);
        x.behind(1, 0, true);
        ordered(x, "a man behind the captain", Check.NONE, 1);
        x.behind(1, 0, false);
        ordered(x, "no more behind him", 2, 1, 1, 0);
        CHECK.due("count(13), as each of these counts", x.count(13), 16);
    }

    private static void orderOutside() {
        CHECK.promise(20, "OUTSIDE: what");
        for (int what : new int[] {-1, 2, 9, 16, Check.LEAST, Check.MOST}) {
            CHECK.refused("order(" + what + ")", Check::onTheWay, Check.OUTSIDE, x -> x.order(what));
        }
    }

    private static void orderWithoutNight() {
        CHECK.promise(20, "STATE: no NIGHT");
        for (int what : new int[] {0, 1, 10, 15}) {
            CHECK.refused("order(" + what + ")", LineToWreck::new, Check.STATE, x -> x.order(what));
        }
    }

    private static void orderWhenBroken() {
        CHECK.promise(20, "SHE has BROKEN");
        CHECK.refused("order(0)", Check::broken, Check.STATE, x -> x.order(0));
        CHECK.refused("order(15)", Check::broken, Check.STATE, x -> x.order(15));
    }

    private static LineToWreck thirtyTimes() {
        LineToWreck x = Check.onTheWay();
        for (int i = 2; i <= 30; i++) {
            CHECK.due("order(11), once more", x.order(11), 2);
            CHECK.due("count(13)", x.count(13), i);
        }
        return x;
    }

    private static void orderThirtyTimesEver() {
        CHECK.promise(20, "or order() was done 30 times ever");
        CHECK.refused("order(0), the 31st", OrderTest::thirtyTimes, Check.STATE, x -> x.order(0));
        CHECK.refused("order(15), the 31st", OrderTest::thirtyTimes, Check.STATE, x -> x.order(15));
        LineToWreck x = thirtyTimes();
        x.restore();
        CHECK.due("order(0) behind restore()", x.order(0), Check.STATE);
        x.blank();
        Check.page(x, "50:0:091:1");
        x.night();
        CHECK.due("order(0) in another night", x.order(0), Check.STATE);
        CHECK.due("count(13)", x.count(13), 30);
    }

    private static void orderRefusalsDoNotCount() {
        CHECK.promise(20, "(refusals do not count");
        LineToWreck x = new LineToWreck();
        x.order(0);
        Check.page(x, "50:0:091:1");
        x.night();
        x.image();
        for (int i = 0; i < 40; i++) {
            x.order(2);
        }
        x.breaks();
        x.order(0);
        x.restore();
        CHECK.due("count(13) behind refusals", x.count(13), 0);
        CHECK.due("order(0)", x.order(0), 0);
        CHECK.due("count(13)", x.count(13), 1);
    }

    private static void orderAllElseCounts() {
        CHECK.promise(20, "all else does)");
        LineToWreck x = circle();
        int[] whats = {0, 1, 10, 15};
        int[] wants = {Check.NONE, 1, Check.NONE, Check.NONE};
        for (int i = 0; i < 30; i++) {
            CHECK.due("order(" + whats[i % 4] + ")", x.order(whats[i % 4]), wants[i % 4]);
            CHECK.due("count(13)", x.count(13), i + 1);
        }
        CHECK.due("order(0), the 31st", x.order(0), Check.STATE);
    }

    private static void orderRefusalsInOrder() {
        CHECK.promise(20, "OUTSIDE: what; STATE: no NIGHT, SHE has BROKEN, or order() was done 30 times ever");
        LineToWreck often = thirtyTimes();
        for (int what : new int[] {-1, 2, 9, 16}) {
            CHECK.due("order(" + what + ") without a night", new LineToWreck().order(what), Check.OUTSIDE);
            CHECK.due("order(" + what + ") when she has broken", Check.broken().order(what), Check.OUTSIDE);
            CHECK.due("order(" + what + "), the 31st", often.order(what), Check.OUTSIDE);
        }
    }
}
