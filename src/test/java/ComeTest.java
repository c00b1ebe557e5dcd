/** Promises 17 to 19: men come over, MINUTES go by, and SHE BREAKS. */
public final class ComeTest {
    private static final int MAN = 0, BOY = 1, MATE = 2, HURT = 3, CAPTAIN = 4;
    private static final Check CHECK = new Check();

    public static void main(String[] args) {
        comeOver();
        comeByTheHawserOfNow();
        comeWithTheLine();
        comeWhenBroken();
        comeOnce();
        comeBehindOthers();
        comeBehindWhoIsOver();
        captainBehindAllOthers();
        captainsAmongThemselves();
        captainWhenOneMoreIsTold();
        comeAheadOfTheEnd();
        comeInTheLastMinuteOfAll();
        comeUnknown();
        comeRefusalsInOrder();

        minutesGoBy();
        minutesLeastAndMost();
        minutesOutside();
        minutesWithoutNight();
        minutesWhenBroken();
        minutesToTheEnd();
        minutesRefusalsInOrder();

        breaksAndLoses();
        breaksWithNobody();
        breaksAllOver();
        breaksWithoutNight();
        breaksOnce();
        breaksBehindAnotherNight();
        CHECK.end("ComeTest");
    }

    /** THE LINE is there in MINUTE 0. */
    private static LineToWreck withLine(int stages, int... kindsAndWeights) {
        LineToWreck x = Check.night("50:0:091:" + "9999999999".substring(0, stages));
        x.rocket(50, 0);
        x.fire(0, 0);
        for (int i = 0; i < kindsAndWeights.length; i += 2) {
            x.man(kindsAndWeights[i], kindsAndWeights[i + 1]);
        }
        return x;
    }

    // ---- promise 17

    private static void comeOver() {
        CHECK.promise(17, "He comes over: the MINUTE then.");
        LineToWreck x = withLine(10, MAN, 10, BOY, 10, HURT, 10);
        CHECK.due("come(0)", x.come(0), 4);
        CHECK.promise(17, "It is so many MINUTES later then.");
        CHECK.due("count(4)", x.count(4), 4);
        CHECK.due("count(3)", x.count(3), 1);
        x.minutes(3);
        CHECK.due("come(2)", x.come(2), 14);
        CHECK.due("come(1)", x.come(1), 16);
        CHECK.due("count(4)", x.count(4), 16);
        CHECK.due("count(3)", x.count(3), 3);
    }

    private static void comeByTheHawserOfNow() {
        CHECK.promise(17, "It is so many MINUTES later then.");
        LineToWreck x = withLine(10, MAN, 10, MAN, 10);
        x.hawser(9);
        CHECK.due("come(0), who sags", x.come(0), 6);
        x.hawser(10);
        CHECK.due("come(1), who does not", x.come(1), 10);
    }

    private static LineToWreck noLine() {
        LineToWreck x = Check.night("50:0:091:000");
        x.rocket(49, 0);
        x.rocket(50, 0);
        x.fire(0, 0);
        x.man(MAN, 10);
        return x;
    }

    private static void comeWithTheLine() {
        CHECK.promise(17, "A MAN MAY COME, if THE LINE is there");
        CHECK.due("about(0, 6)", noLine().about(0, 6), 0);
        CHECK.refused("come(0)", ComeTest::noLine, Check.STATE, x -> x.come(0));
        LineToWreck x = noLine();
        x.fire(1, 0);
        CHECK.due("about(0, 6) with the line", x.about(0, 6), 1);
        CHECK.due("come(0) with the line", x.come(0), 4);
    }

    private static LineToWreck brokenWithMen() {
        LineToWreck x = withLine(10, MAN, 10, MAN, 10);
        x.come(1);
        x.breaks();
        return x;
    }

    private static void comeWhenBroken() {
        CHECK.promise(17, "SHE has not BROKEN");
        CHECK.due("about(0, 6)", brokenWithMen().about(0, 6), 0);
        CHECK.refused("come(0)", ComeTest::brokenWithMen, Check.STATE, x -> x.come(0));
    }

    private static LineToWreck oneIsOver() {
        LineToWreck x = withLine(10, MAN, 10, MAN, 10);
        x.come(0);
        return x;
    }

    private static void comeOnce() {
        CHECK.promise(17, "he is not over");
        CHECK.due("about(0, 6)", oneIsOver().about(0, 6), 0);
        CHECK.refused("come(0) again", ComeTest::oneIsOver, Check.STATE, x -> x.come(0));
        CHECK.due("come(1)", oneIsOver().come(1), 8);
    }

    private static LineToWreck behindTwo() {
        LineToWreck x = withLine(10, MAN, 1, MAN, 1, MAN, 1);
        x.behind(0, 1, true);
        x.behind(0, 2, true);
        x.come(2);
        return x;
    }

    private static void comeBehindOthers() {
        CHECK.promise(17, "Some come only BEHIND others, as told");
        CHECK.due("about(0, 6) behind one of two", behindTwo().about(0, 6), 0);
        CHECK.promise(17, "all are over BEHIND whom he comes");
        CHECK.refused("come(0) behind one of two", ComeTest::behindTwo, Check.STATE, x -> x.come(0));
        LineToWreck x = behindTwo();
        CHECK.due("come(1)", x.come(1), 4);
        CHECK.due("about(0, 6) behind both", x.about(0, 6), 1);
        CHECK.due("come(0) behind both", x.come(0), 6);
    }

    private static void comeBehindWhoIsOver() {
        CHECK.promise(17, "all are over BEHIND whom he comes");
        LineToWreck x = oneIsOver();
        x.behind(0, 1, true);
        CHECK.due("behind(1, 0, true), who is over", x.behind(1, 0, true), 0);
        CHECK.due("about(1, 6)", x.about(1, 6), 1);
        CHECK.due("come(1)", x.come(1), 8);
    }

    private static LineToWreck captainFirst() {
        LineToWreck x = withLine(10, CAPTAIN, 1, MATE, 1, BOY, 1);
        x.come(1);
        return x;
    }

    private static void captainBehindAllOthers() {
        CHECK.promise(17, "a CAPTAIN only when all are over that are none.");
        CHECK.due("about(0, 6) as a boy is left", captainFirst().about(0, 6), 0);
        CHECK.promise(17, "(and those ahead of a CAPTAIN)");
        CHECK.refused("come(0) as a boy is left", ComeTest::captainFirst, Check.STATE, x -> x.come(0));
        LineToWreck x = captainFirst();
        x.come(2);
        CHECK.due("about(0, 6)", x.about(0, 6), 1);
        CHECK.due("come(0)", x.come(0), 5);
        CHECK.due("come(0) of a captain alone", withLine(1, CAPTAIN, 1).come(0), 2);
    }

    private static void captainsAmongThemselves() {
        CHECK.promise(17, "a CAPTAIN only when all are over that are none.");
        LineToWreck x = withLine(10, CAPTAIN, 1, CAPTAIN, 1, MATE, 1);
        x.come(2);
        CHECK.due("about(0, 6) ahead of the other captain", x.about(0, 6), 1);
        CHECK.due("about(1, 6) ahead of the other captain", x.about(1, 6), 1);
        x.behind(0, 1, true);
        CHECK.due("about(0, 6) behind the other captain", x.about(0, 6), 0);
        CHECK.due("come(1)", x.come(1), 4);
        CHECK.due("come(0)", x.come(0), 6);
    }

    private static void captainWhenOneMoreIsTold() {
        CHECK.promise(17, "a CAPTAIN only when all are over that are none.");
        LineToWreck x = withLine(10, CAPTAIN, 1);
        CHECK.due("about(0, 6)", x.about(0, 6), 1);
        x.man(HURT, 1);
        CHECK.due("about(0, 6) when one more is told", x.about(0, 6), 0);
        x.come(1);
        CHECK.due("about(0, 6) when he is over", x.about(0, 6), 1);
    }

    private static LineToWreck oneMinuteTooLate() {
        LineToWreck x = withLine(1, MAN, 10);
        x.minutes(1);
        return x;
    }

    private static void comeAheadOfTheEnd() {
        CHECK.promise(17, "and he is over ahead of the end of the last STAGE.");
        CHECK.due("about(0, 6), over in minute 4 of 5", withLine(1, MAN, 10).about(0, 6), 1);
        CHECK.due("come(0), over in minute 4 of 5", withLine(1, MAN, 10).come(0), 4);
        CHECK.due("about(0, 6), over in minute 5 of 5", oneMinuteTooLate().about(0, 6), 0);
        CHECK.refused("come(0), over in minute 5 of 5", ComeTest::oneMinuteTooLate, Check.STATE, x -> x.come(0));
        LineToWreck late = withLine(1, MAN, 30);
        CHECK.due("come(0), over in minute 8 of 5", late.come(0), Check.STATE);
        LineToWreck sags = withLine(1, MAN, 10);
        sags.hawser(0);
        CHECK.due("come(0), who sags, in minute 6 of 5", sags.come(0), Check.STATE);
    }

    private static void comeInTheLastMinuteOfAll() {
        CHECK.promise(17, "in the end of the last one told SHE BREAKS anyhow (no MINUTE from then on is ever come to)");
        LineToWreck x = withLine(10, MAN, 10, BOY, 1);
        x.minutes(45);
        CHECK.due("come(0), over in minute 49 of 50", x.come(0), 49);
        CHECK.due("come(1), over in minute 50 of 50", x.come(1), Check.STATE);
        CHECK.due("count(4)", x.count(4), 49);
        CHECK.due("count(6), as it is not told yet that she breaks", x.count(6), 0);
    }

    private static void comeUnknown() {
        CHECK.promise(17, "UNKNOWN");
        for (int man : new int[] {-1, 3, 6, Check.LEAST, Check.MOST}) {
            CHECK.refused("come(" + man + ")", Check::onTheWay, Check.UNKNOWN, x -> x.come(man));
        }
        CHECK.refused("come(0) as there is none", () -> withLine(1), Check.UNKNOWN, x -> x.come(0));
    }

    private static void comeRefusalsInOrder() {
        CHECK.promise(17, "UNKNOWN; STATE: he MAY not COME.");
        CHECK.due("come(3) when she has broken", Check.broken().come(3), Check.UNKNOWN);
        CHECK.due("come(-1) without the line", noLine().come(-1), Check.UNKNOWN);
        CHECK.due("come(0) without a night", new LineToWreck().come(0), Check.UNKNOWN);
    }

    // ---- promise 18

    private static void minutesGoBy() {
        CHECK.promise(18, "So many MINUTES go by: the MINUTE then.");
        LineToWreck x = noLine();
        CHECK.due("minutes(3)", x.minutes(3), 3);
        CHECK.due("count(4)", x.count(4), 3);
        CHECK.due("minutes(4)", x.minutes(4), 7);
        CHECK.due("count(4)", x.count(4), 7);
        CHECK.due("minutes(2) with the line", Check.onTheWay().minutes(2), 9);
    }

    private static void minutesLeastAndMost() {
        CHECK.promise(18, "OUTSIDE: minutes (1 to 50)");
        CHECK.due("minutes(1)", withLine(10).minutes(1), 1);
        CHECK.due("minutes(49)", withLine(10).minutes(49), 49);
        // 50 is not OUTSIDE, but no NIGHT is as long as that
        CHECK.due("minutes(50)", withLine(10).minutes(50), Check.STATE);
    }

    private static void minutesOutside() {
        CHECK.promise(18, "OUTSIDE: minutes (1 to 50)");
        for (int minutes : new int[] {0, 51, -1, Check.LEAST, Check.MOST}) {
            CHECK.refused("minutes(" + minutes + ")", Check::onTheWay, Check.OUTSIDE, x -> x.minutes(minutes));
        }
    }

    private static void minutesWithoutNight() {
        CHECK.promise(18, "STATE: no NIGHT");
        CHECK.refused("minutes(1)", LineToWreck::new, Check.STATE, x -> x.minutes(1));
        CHECK.refused("minutes(50)", LineToWreck::new, Check.STATE, x -> x.minutes(50));
    }

    private static void minutesWhenBroken() {
        CHECK.promise(18, "SHE has BROKEN");
        CHECK.refused("minutes(1)", Check::broken, Check.STATE, x -> x.minutes(1));
    }

    private static LineToWreck inMinuteNine() {
        LineToWreck x = withLine(2);
        x.minutes(9);
        return x;
    }

    private static void minutesToTheEnd() {
        CHECK.promise(18, "or the last STAGE would be over.");
        CHECK.due("minutes(4) of 5", withLine(1).minutes(4), 4);
        CHECK.due("minutes(9) of 10", withLine(2).minutes(9), 9);
        CHECK.refused("minutes(5) of 5", () -> withLine(1), Check.STATE, x -> x.minutes(5));
        CHECK.refused("minutes(10) of 10", () -> withLine(2), Check.STATE, x -> x.minutes(10));
        CHECK.refused("minutes(50) of 10", () -> withLine(2), Check.STATE, x -> x.minutes(50));
        CHECK.refused("minutes(1) in minute 9 of 10", ComeTest::inMinuteNine, Check.STATE, x -> x.minutes(1));
        CHECK.refused("minutes(50) of 50", () -> withLine(10), Check.STATE, x -> x.minutes(50));
    }

    private static void minutesRefusalsInOrder() {
        CHECK.promise(18, "OUTSIDE: minutes (1 to 50); STATE: no NIGHT, SHE has BROKEN, or the last STAGE would be over.");
        for (int minutes : new int[] {0, 51}) {
            CHECK.due("minutes(" + minutes + ") without a night", new LineToWreck().minutes(minutes), Check.OUTSIDE);
            CHECK.due("minutes(" + minutes + ") when broken", Check.broken().minutes(minutes), Check.OUTSIDE);
            CHECK.due("minutes(" + minutes + ") in minute 9", inMinuteNine().minutes(minutes), Check.OUTSIDE);
        }
    }

    // ---- promise 19

    private static void breaksAndLoses() {
        CHECK.promise(19, "SHE BREAKS: how many are LOST.");
        LineToWreck x = withLine(10, MAN, 1, MAN, 1, MAN, 1);
        x.come(1);
        CHECK.due("count(6)", x.count(6), 0);
        CHECK.promise(19, "SHE BREAKS (as it was, when it is told so): those who are not over are LOST.");
        CHECK.due("breaks()", x.breaks(), 2);
        CHECK.due("count(6)", x.count(6), 1);
        CHECK.due("count(3)", x.count(3), 1);
        CHECK.due("count(2)", x.count(2), 3);
        CHECK.due("count(4)", x.count(4), 2);
        CHECK.due("breaks() of six without a line", sixAboard().breaks(), 6);
    }

    private static LineToWreck sixAboard() {
        LineToWreck x = noLine();
        for (int i = 1; i < 6; i++) {
            x.man(MAN, 1);
        }
        return x;
    }

    private static void breaksWithNobody() {
        CHECK.promise(19, "SHE BREAKS: how many are LOST.");
        LineToWreck x = withLine(1);
        CHECK.due("breaks() of no men", x.breaks(), 0);
        CHECK.due("count(6)", x.count(6), 1);
    }

    private static void breaksAllOver() {
        CHECK.promise(19, "those who are not over are LOST.");
        LineToWreck x = withLine(1, BOY, 1, BOY, 1);
        x.come(0);
        x.come(1);
        CHECK.due("breaks() when all are over", x.breaks(), 0);
    }

    private static void breaksWithoutNight() {
        CHECK.promise(19, "STATE: no NIGHT");
        CHECK.refused("breaks()", LineToWreck::new, Check.STATE, LineToWreck::breaks);
    }

    private static void breaksOnce() {
        CHECK.promise(19, "or SHE has BROKEN.");
        CHECK.refused("breaks() again", Check::broken, Check.STATE, LineToWreck::breaks);
    }

    private static void breaksBehindAnotherNight() {
        CHECK.promise(19, "STATE: no NIGHT, or SHE has BROKEN.");
        LineToWreck x = brokenWithMen();
        Check.page(x, "50:0:091:0");
        x.night();
        x.man(MAN, 1);
        CHECK.due("breaks() in another night", x.breaks(), 1);
    }
}
