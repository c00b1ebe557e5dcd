/** Promises 7 to 11: rockets, how they fall, and which to fire. */
public final class RocketTest {
    private static final Check CHECK = new Check();

    public static void main(String[] args) {
        rocketNumbers();
        rocketLeastAndMost();
        rocketOutside();
        rocketWithoutNight();
        rocketFull();
        rocketRefusalsInOrder();
        rocketAtAnyTime();

        fireByGusts();
        fireByDamp();
        fireByStages();
        fireFarthest();
        fireRight();
        fireRightByGusts();
        firstRightMakesTheLine();
        fireWithTheLine();
        fireUnknown();
        fireOutside();
        fireOnce();
        fireWhenBroken();
        fireRefusalsInOrder();

        hitsByGusts();
        hitsFromFarToFiveBeyond();
        hitsInLowestTerms();
        hitsLeastAndMostStage();
        hitsAtAnyTime();
        hitsUnknown();
        hitsOutside();
        hitsRefusalsInOrder();

        aimOfNoRocket();
        aimOfOneStage();
        aimOfLaterStages();
        aimOfMostStages();
        aimOfNoMoreThanAreLeft();
        aimFromThisStageOn();
        aimWithoutFiredOnes();
        aimIsTheBest();
        aimAndBreaking();
        aimOutside();
        aimRefusedByState();
        aimRefusalsInOrder();

        whichOfNone();
        whichNoneFirst();
        whichTheLeast();
        whichTheBest();
        whichChangesNothing();
        whichOutside();
        whichRefusedByState();
        whichRefusalsInOrder();
        CHECK.end("RocketTest");
    }

    private static final int[][] OUTSIDE_ROCKETS = {{9, 0}, {121, 0}, {40, -1}, {40, 10}, {-40, 0}, {0, 0},
            {Check.LEAST, 0}, {Check.MOST, 0}, {40, Check.LEAST}, {40, Check.MOST}};

    /** SHE holds for sure; a GUST is none for the most part. */
    private static LineToWreck calm(int... ranges) {
        LineToWreck x = Check.night("40:3:262:0000000000");
        for (int range : ranges) {
            x.rocket(range, 0);
        }
        return x;
    }

    private static LineToWreck sixRockets() {
        return calm(40, 40, 40, 40, 40, 40);
    }

    // ---- promise 7

    private static void rocketNumbers() {
        CHECK.promise(7, "A ROCKET: its number.");
        LineToWreck x = calm();
        for (int i = 0; i < 6; i++) {
            CHECK.due("rocket " + i, x.rocket(40 + i, 0), i);
            CHECK.due("count(0)", x.count(0), i + 1);
        }
        CHECK.due("fire(3, 0), by its number", x.fire(3, 0), 43);
    }

    private static void rocketLeastAndMost() {
        CHECK.promise(7, "have a RANGE (10 to 120) and DAMP (0 to 9).");
        LineToWreck x = calm();
        CHECK.due("rocket(10, 9)", x.rocket(10, 9), 0);
        CHECK.due("rocket(120, 0)", x.rocket(120, 0), 1);
        CHECK.due("fire(0, 0)", x.fire(0, 0), 10);
        CHECK.due("fire(1, 0)", x.fire(1, 0), 120);
    }

    private static void rocketOutside() {
        CHECK.promise(7, "OUTSIDE: range, damp");
        for (int[] o : OUTSIDE_ROCKETS) {
            CHECK.refused("rocket(" + o[0] + ", " + o[1] + ")", Check::onTheWay, Check.OUTSIDE,
                    x -> x.rocket(o[0], o[1]));
        }
    }

    private static void rocketWithoutNight() {
        CHECK.promise(7, "STATE: no NIGHT");
        CHECK.refused("rocket(40, 0)", LineToWreck::new, Check.STATE, x -> x.rocket(40, 0));
    }

    private static void rocketFull() {
        CHECK.promise(7, "ROCKETS (6 at most, numbered)");
        CHECK.due("count(0) of six", sixRockets().count(0), 6);
        CHECK.promise(7, "FULL.");
        CHECK.refused("a seventh rocket", RocketTest::sixRockets, Check.FULL, x -> x.rocket(40, 0));
        LineToWreck x = sixRockets();
        for (int i = 0; i < 6; i++) {
            x.fire(i, 0);
        }
        CHECK.due("a seventh one when six are fired", x.rocket(40, 0), Check.FULL);
    }

    private static void rocketRefusalsInOrder() {
        CHECK.promise(7, "OUTSIDE: range, damp; STATE: no NIGHT; FULL.");
        for (int[] o : OUTSIDE_ROCKETS) {
            String call = "rocket(" + o[0] + ", " + o[1] + ")";
            CHECK.due(call + " without a night", new LineToWreck().rocket(o[0], o[1]), Check.OUTSIDE);
            CHECK.due(call + " as a seventh one", sixRockets().rocket(o[0], o[1]), Check.OUTSIDE);
        }
    }

    private static void rocketAtAnyTime() {
        CHECK.promise(7, "A ROCKET: its number.");
        LineToWreck x = Check.onTheWay();
        CHECK.due("rocket(40, 0) when the line is there", x.rocket(40, 0), 3);
        LineToWreck y = Check.broken();
        CHECK.due("rocket(40, 0) when she has broken", y.rocket(40, 0), 3);
    }

    // ---- promise 8

    private static void fireByGusts() {
        CHECK.promise(8, "It is fired, by a GUST (-1 against, 0 none, 1 on): where it falls.");
        LineToWreck x = calm(50, 50, 50);
        CHECK.due("fire(0, -1)", x.fire(0, -1), 47);
        CHECK.due("fire(1, 0)", x.fire(1, 0), 50);
        CHECK.due("fire(2, 1)", x.fire(2, 1), 53);
        CHECK.due("count(1)", x.count(1), 3);
        CHECK.due("count(4), as no minute goes by", x.count(4), 0);
    }

    private static void fireByDamp() {
        CHECK.promise(8, "Fired in a STAGE one falls at its RANGE less DAMP times the number of the STAGE, less WIND by a"
                + " GUST against, and WIND by one on.");
        LineToWreck x = calm();
        for (int i = 0; i < 6; i++) {
            x.rocket(50, 4);
        }
        CHECK.due("fire(0, 0) in stage 0", x.fire(0, 0), 50);
        x.minutes(5);
        CHECK.due("fire(1, 0) in stage 1", x.fire(1, 0), 46);
        CHECK.due("fire(2, -1) in stage 1", x.fire(2, -1), 43);
        x.minutes(40);
        CHECK.due("fire(3, 0) in stage 9", x.fire(3, 0), 14);
        CHECK.due("fire(4, 1) in stage 9", x.fire(4, 1), 17);
        CHECK.due("fire(5, -1) in stage 9", x.fire(5, -1), 11);
    }

    private static void firedInMinute(int minute, int want) {
        LineToWreck x = calm();
        x.rocket(50, 1);
        if (minute > 0) {
            x.minutes(minute);
        }
        CHECK.due("fire(0, 0) in minute " + minute, x.fire(0, 0), want);
    }

    private static void fireByStages() {
        CHECK.promise(8, "A STAGE is 5 MINUTES long: STAGE 0 is MINUTES 0 to 4, and so on");
        firedInMinute(0, 50);
        firedInMinute(4, 50);
        firedInMinute(5, 49);
        firedInMinute(9, 49);
        firedInMinute(10, 48);
        firedInMinute(44, 42);
        firedInMinute(45, 41);
        firedInMinute(49, 41);
    }

    private static void fireFarthest() {
        CHECK.promise(8, "Fired in a STAGE one falls at its RANGE less DAMP times the number of the STAGE");
        LineToWreck x = Check.night("99:9:262:0000000000");
        x.rocket(10, 9);
        x.rocket(120, 0);
        x.rocket(71, 8);
        x.minutes(49);
        CHECK.due("fire(0, -1), the least that can be", x.fire(0, -1), 10 - 81 - 9);
        CHECK.due("fire(1, 1), the most that can be", x.fire(1, 1), 129);
        CHECK.due("fire(2, 0), which falls before the shore, and is fired", x.fire(2, 0), -1);
        CHECK.due("count(1)", x.count(1), 3);
    }

    private static void falls(int range, int gust, int line) {
        LineToWreck x = calm(range);
        x.fire(0, gust);
        CHECK.due("whether a rocket of " + range + " by a gust of " + gust + " makes the line", x.count(5), line);
    }

    private static void fireRight() {
        CHECK.promise(8, "It falls RIGHT from FAR to 5 beyond FAR.");
        falls(39, 0, 0);
        falls(40, 0, 1);
        falls(41, 0, 1);
        falls(45, 0, 1);
        falls(46, 0, 0);
        falls(10, 0, 0);
        falls(120, 0, 0);
    }

    private static void fireRightByGusts() {
        CHECK.promise(8, "It falls RIGHT from FAR to 5 beyond FAR.");
        falls(42, -1, 0);
        falls(43, -1, 1);
        falls(48, -1, 1);
        falls(49, -1, 0);
        falls(36, 1, 0);
        falls(37, 1, 1);
        falls(42, 1, 1);
        falls(43, 1, 0);
    }

    private static void firstRightMakesTheLine() {
        CHECK.promise(8, "THE LINE is there, when the first one falls RIGHT.");
        LineToWreck x = calm(39, 46, 42, 60, 42);
        CHECK.due("count(5) as none is fired", x.count(5), 0);
        x.fire(0, 0);
        CHECK.due("count(5) behind one too near", x.count(5), 0);
        x.fire(1, 0);
        CHECK.due("count(5) behind one too far", x.count(5), 0);
        x.fire(2, 0);
        CHECK.due("count(5) behind one that falls right", x.count(5), 1);
        x.fire(3, 0);
        CHECK.due("count(5), as a wrong one behind it takes nothing away", x.count(5), 1);
    }

    private static void fireWithTheLine() {
        CHECK.promise(8, "STATE: it is fired, or SHE has BROKEN.");
        LineToWreck x = calm(42, 43);
        x.fire(0, 0);
        CHECK.due("fire(1, 0) when the line is there", x.fire(1, 0), 43);
        CHECK.due("count(1)", x.count(1), 2);
    }

    private static void fireUnknown() {
        CHECK.promise(8, "UNKNOWN");
        for (int rocket : new int[] {-1, 3, 6, 32, Check.LEAST, Check.MOST}) {
            CHECK.refused("fire(" + rocket + ", 0)", Check::onTheWay, Check.UNKNOWN, x -> x.fire(rocket, 0));
        }
        CHECK.refused("fire(0, 0) as there is none", RocketTest::calm, Check.UNKNOWN, x -> x.fire(0, 0));
        CHECK.refused("fire(6, 0) of six", RocketTest::sixRockets, Check.UNKNOWN, x -> x.fire(6, 0));
    }

    private static void fireOutside() {
        CHECK.promise(8, "OUTSIDE");
        for (int gust : new int[] {-2, 2, Check.LEAST, Check.MOST}) {
            CHECK.refused("fire(2, " + gust + ")", Check::onTheWay, Check.OUTSIDE, x -> x.fire(2, gust));
        }
    }

    private static void fireOnce() {
        CHECK.promise(8, "One is fired once.");
        CHECK.refused("fire(1, 0), which fell right", Check::onTheWay, Check.STATE, x -> x.fire(1, 0));
        CHECK.promise(8, "STATE: it is fired");
        CHECK.refused("fire(0, 1), which fell wrong", Check::withoutLine, Check.STATE, x -> x.fire(0, 1));
    }

    private static void fireWhenBroken() {
        CHECK.promise(8, "SHE has BROKEN.");
        CHECK.refused("fire(2, 0)", Check::broken, Check.STATE, x -> x.fire(2, 0));
    }

    private static void fireRefusalsInOrder() {
        CHECK.promise(8, "UNKNOWN; OUTSIDE; STATE: it is fired, or SHE has BROKEN.");
        CHECK.due("fire(3, 2), no rocket and no gust", Check.onTheWay().fire(3, 2), Check.UNKNOWN);
        CHECK.due("fire(-1, -2), no rocket and no gust", Check.onTheWay().fire(-1, -2), Check.UNKNOWN);
        CHECK.due("fire(0, 0) without a night", new LineToWreck().fire(0, 0), Check.UNKNOWN);
        CHECK.due("fire(3, 0) when she has broken", Check.broken().fire(3, 0), Check.UNKNOWN);
        CHECK.due("fire(1, 2), which is fired", Check.onTheWay().fire(1, 2), Check.OUTSIDE);
        CHECK.due("fire(2, -2) when she has broken", Check.broken().fire(2, -2), Check.OUTSIDE);
    }

    // ---- promise 9

    private static void hit(LineToWreck x, int rocket, int stage, int above, int below) {
        CHECK.due("hits(" + rocket + ", " + stage + ", 0)", x.hits(rocket, stage, 0), above);
        CHECK.due("hits(" + rocket + ", " + stage + ", 1)", x.hits(rocket, stage, 1), below);
    }

    private static void hitsByGusts() {
        CHECK.promise(9, "HITS: how likely a ROCKET, fired in a STAGE, falls RIGHT (by GUSTS).");
        LineToWreck x = Check.night("40:3:136:12");
        x.rocket(48, 1);
        // it falls at 45, 48, 51 by the GUSTS; a STAGE later at 44, 47, 50, and so on
        hit(x, 0, 0, 1, 10);
        hit(x, 0, 2, 1, 10);
        hit(x, 0, 3, 2, 5);
        hit(x, 0, 5, 2, 5);
        hit(x, 0, 6, 9, 10);
        hit(x, 0, 9, 3, 5);
    }

    private static void hitsFromFarToFiveBeyond() {
        CHECK.promise(9, "HITS: how likely a ROCKET, fired in a STAGE, falls RIGHT (by GUSTS).");
        LineToWreck x = Check.night("40:0:127:1");
        x.rocket(39, 0);
        x.rocket(40, 0);
        x.rocket(45, 0);
        x.rocket(46, 0);
        hit(x, 0, 0, 0, 1);
        hit(x, 1, 0, 1, 1);
        hit(x, 2, 0, 1, 1);
        hit(x, 3, 0, 0, 1);
    }

    private static void hitsInLowestTerms() {
        CHECK.promise(9, "HITS: part 0 above, 1 below, in lowest terms.");
        int[] above = {0, 1, 1, 3, 2, 1, 3, 7, 4, 9};
        int[] below = {1, 10, 5, 10, 5, 2, 5, 10, 5, 10};
        for (int against = 0; against <= 9; against++) {
            LineToWreck x = Check.night("40:9:" + (against == 0 ? "091" : against + "" + (10 - against) + "0") + ":1");
            // right by a GUST against alone
            x.rocket(49, 0);
            hit(x, 0, 0, above[against], below[against]);
        }
        LineToWreck x = Check.night("40:0:262:1");
        x.rocket(42, 0);
        hit(x, 0, 0, 1, 1);
    }

    private static void hitsLeastAndMostStage() {
        CHECK.promise(9, "OUTSIDE: stage (0 to 9)");
        LineToWreck x = Check.night("40:0:262:1");
        x.rocket(45, 0);
        x.rocket(63, 2);
        hit(x, 0, 0, 1, 1);
        hit(x, 0, 9, 1, 1);
        hit(x, 1, 8, 0, 1);
        // a STAGE that THE NIGHT does not have is asked as another
        hit(x, 1, 9, 1, 1);
    }

    private static void hitsAtAnyTime() {
        CHECK.promise(9, "HITS: how likely a ROCKET, fired in a STAGE, falls RIGHT (by GUSTS).");
        LineToWreck x = calm(42, 42);
        x.fire(0, 0);
        hit(x, 0, 0, 4, 5);
        x.minutes(10);
        hit(x, 1, 0, 4, 5);
        x.breaks();
        hit(x, 0, 0, 4, 5);
        hit(x, 1, 0, 4, 5);
    }

    private static void hitsUnknown() {
        CHECK.promise(9, "UNKNOWN");
        for (int rocket : new int[] {-1, 3, 6, Check.LEAST, Check.MOST}) {
            CHECK.refused("hits(" + rocket + ", 0, 0)", Check::onTheWay, Check.UNKNOWN, x -> x.hits(rocket, 0, 0));
        }
        CHECK.refused("hits(0, 0, 0) as there is none", RocketTest::calm, Check.UNKNOWN, x -> x.hits(0, 0, 0));
        CHECK.refused("hits(6, 0, 0) of six", RocketTest::sixRockets, Check.UNKNOWN, x -> x.hits(6, 0, 0));
    }

    private static void hitsOutside() {
        CHECK.promise(9, "OUTSIDE: stage (0 to 9), part.");
        for (int stage : new int[] {-1, 10, Check.LEAST, Check.MOST}) {
            CHECK.refused("hits(0, " + stage + ", 0)", Check::onTheWay, Check.OUTSIDE, x -> x.hits(0, stage, 0));
        }
        for (int part : new int[] {-1, 2, Check.LEAST, Check.MOST}) {
            CHECK.refused("hits(0, 0, " + part + ")", Check::onTheWay, Check.OUTSIDE, x -> x.hits(0, 0, part));
        }
    }

    private static void hitsRefusalsInOrder() {
        CHECK.promise(9, "UNKNOWN; OUTSIDE: stage (0 to 9), part.");
        CHECK.due("hits(3, 10, 0)", Check.onTheWay().hits(3, 10, 0), Check.UNKNOWN);
        CHECK.due("hits(-1, -1, 2)", Check.onTheWay().hits(-1, -1, 2), Check.UNKNOWN);
        CHECK.due("hits(0, 0, 2) without a night", new LineToWreck().hits(0, 0, 2), Check.UNKNOWN);
    }

    // ---- promise 10

    private static void aims(LineToWreck x, int stages, int above, int below) {
        CHECK.due("aim(" + stages + ", 0)", x.aim(stages, 0), above);
        CHECK.due("aim(" + stages + ", 1)", x.aim(stages, 1), below);
    }

    /** Each of two rockets falls right by a half; SHE BREAKS by a half in the end of STAGE 0. */
    private static LineToWreck halves() {
        LineToWreck x = Check.night("40:5:505:50");
        x.rocket(40, 0);
        x.rocket(45, 0);
        return x;
    }

    private static void aimOfNoRocket() {
        CHECK.promise(10, "AIM, in lowest terms: part 0 above, 1 below.");
        LineToWreck x = calm();
        aims(x, 1, 0, 1);
        aims(x, 4, 0, 1);
        LineToWreck wrong = calm(10, 120);
        aims(wrong, 1, 0, 1);
        aims(wrong, 4, 0, 1);
        LineToWreck sure = Check.night("40:0:262:1");
        sure.rocket(40, 0);
        aims(sure, 1, 1, 1);
    }

    private static void aimOfOneStage() {
        CHECK.promise(10, "AIM: how likely THE LINE is made within so many STAGES");
        aims(halves(), 1, 1, 2);
        LineToWreck x = Check.night("40:3:262:9");
        x.rocket(38, 0);
        aims(x, 1, 1, 5);
        x.rocket(43, 0);
        aims(x, 1, 4, 5);
    }

    private static void aimOfLaterStages() {
        CHECK.promise(10, "if in each of them one ROCKET (that is not fired yet), or none, is fired, as it is best");
        // a half; else, by a half that she holds, a half again
        aims(halves(), 2, 5, 8);
        // one ROCKET is fired once, and not again in the next STAGE
        LineToWreck one = Check.night("40:5:505:00");
        one.rocket(40, 0);
        aims(one, 2, 1, 2);
        one.rocket(40, 0);
        aims(one, 2, 3, 4);
        one.rocket(40, 0);
        aims(one, 2, 3, 4);
    }

    /** Each of six rockets falls right by one tenth, in a STAGE as in another. */
    private static LineToWreck tenths(String stages) {
        LineToWreck x = Check.night("40:9:190:" + stages);
        for (int i = 0; i < 6; i++) {
            x.rocket(49, 0);
        }
        return x;
    }

    private static void aimOfMostStages() {
        CHECK.promise(10, "(1 to 4; no more than are left)");
        LineToWreck x = tenths("999999");
        aims(x, 1, 1, 10);
        aims(x, 2, 109, 1000);
        aims(x, 3, 10981, 100000);
        aims(x, 4, 1098829, 10000000);
        LineToWreck y = tenths("111111");
        aims(y, 2, 181, 1000);
        aims(y, 3, 24661, 100000);
        aims(y, 4, 2997541, 10000000);
    }

    private static void aimOfNoMoreThanAreLeft() {
        CHECK.promise(10, "no more than are left");
        LineToWreck one = tenths("1");
        for (int stages = 1; stages <= 4; stages++) {
            aims(one, stages, 1, 10);
        }
        LineToWreck two = halves();
        aims(two, 3, 5, 8);
        aims(two, 4, 5, 8);
        two.minutes(5);
        aims(two, 1, 1, 2);
        aims(two, 2, 1, 2);
        aims(two, 4, 1, 2);
        LineToWreck ten = tenths("1111111111");
        ten.minutes(34);
        aims(ten, 4, 2997541, 10000000);
        ten.minutes(1);
        aims(ten, 4, 24661, 100000);
        ten.minutes(14);
        aims(ten, 4, 1, 10);
    }

    private static void aimFromThisStageOn() {
        CHECK.promise(10, "from this one on");
        LineToWreck x = Check.night("40:5:505:905");
        // at 49, 54, 59 by the GUSTS in STAGE 0; at 40, 45, 50 in STAGE 1
        x.rocket(54, 9);
        aims(x, 1, 0, 1);
        // 9 of 10 times SHE has BROKEN ahead of STAGE 1
        aims(x, 2, 1, 20);
        x.minutes(4);
        aims(x, 2, 1, 20);
        x.minutes(1);
        aims(x, 1, 1, 2);
    }

    private static void aimWithoutFiredOnes() {
        CHECK.promise(10, "(that is not fired yet)");
        LineToWreck x = halves();
        x.fire(0, -1);
        aims(x, 1, 1, 2);
        aims(x, 2, 1, 2);
        x.fire(1, 1);
        aims(x, 1, 0, 1);
        aims(x, 2, 0, 1);
    }

    private static void aimIsTheBest() {
        CHECK.promise(10, "or none, is fired, as it is best (told at its beginning)");
        LineToWreck x = Check.night("40:5:550:249");
        x.rocket(50, 5);
        // a half now; in the next STAGE for sure, but by 8 of 10 only is she there
        aims(x, 1, 1, 2);
        aims(x, 2, 4, 5);
        LineToWreck y = Check.night("40:2:253:249");
        y.rocket(48, 5);
        y.rocket(47, 0);
        // the second one by 2 of 10 now, then the first one for sure by 8 of 10
        aims(y, 1, 1, 5);
        aims(y, 2, 21, 25);
        aims(y, 3, 21, 25);
    }

    private static void aimAndBreaking() {
        CHECK.promise(10, "and SHE has not BROKEN by the end of any STAGE before");
        LineToWreck nine = tenths("90");
        aims(nine, 2, 109, 1000);
        LineToWreck none = tenths("00");
        aims(none, 2, 19, 100);
        // what is told of the STAGE that comes last does not count
        LineToWreck last = tenths("09");
        aims(last, 2, 19, 100);
    }

    private static void aimOutside() {
        CHECK.promise(10, "OUTSIDE: stages, part");
        for (int stages : new int[] {0, 5, -1, Check.LEAST, Check.MOST}) {
            CHECK.refused("aim(" + stages + ", 0)", Check::withoutLine, Check.OUTSIDE, x -> x.aim(stages, 0));
        }
        for (int part : new int[] {-1, 2, Check.LEAST, Check.MOST}) {
            CHECK.refused("aim(1, " + part + ")", Check::withoutLine, Check.OUTSIDE, x -> x.aim(1, part));
        }
    }

    private static void aimRefusedByState() {
        CHECK.promise(10, "STATE: no NIGHT");
        CHECK.refused("aim(1, 0)", LineToWreck::new, Check.STATE, x -> x.aim(1, 0));
        CHECK.promise(10, "THE LINE is there");
        CHECK.refused("aim(1, 0) with the line", Check::onTheWay, Check.STATE, x -> x.aim(1, 0));
        CHECK.promise(10, "or SHE has BROKEN.");
        CHECK.refused("aim(1, 0) when she has broken", RocketTest::brokenWithoutLine, Check.STATE, x -> x.aim(1, 0));
    }

    private static LineToWreck brokenWithoutLine() {
        LineToWreck x = Check.withoutLine();
        x.breaks();
        return x;
    }

    private static void aimRefusalsInOrder() {
        CHECK.promise(10, "OUTSIDE: stages, part; STATE: no NIGHT, THE LINE is there, or SHE has BROKEN.");
        int[][] outside = {{0, 0}, {5, 0}, {1, -1}, {1, 2}};
        for (int[] o : outside) {
            String call = "aim(" + o[0] + ", " + o[1] + ")";
            CHECK.due(call + " without a night", new LineToWreck().aim(o[0], o[1]), Check.OUTSIDE);
            CHECK.due(call + " with the line", Check.onTheWay().aim(o[0], o[1]), Check.OUTSIDE);
            CHECK.due(call + " when she has broken", brokenWithoutLine().aim(o[0], o[1]), Check.OUTSIDE);
        }
    }

    // ---- promise 11

    private static void which(LineToWreck x, int stages, int want) {
        CHECK.due("which(" + stages + ")", x.which(stages), want);
    }

    private static void whichOfNone() {
        CHECK.promise(11, "Which ROCKET to fire now (NONE: none).");
        for (int stages = 1; stages <= 4; stages++) {
            which(calm(), stages, Check.NONE);
            which(calm(10, 120), stages, Check.NONE);
        }
        LineToWreck fired = halves();
        fired.fire(0, -1);
        fired.fire(1, 1);
        which(fired, 1, Check.NONE);
    }

    private static void whichNoneFirst() {
        CHECK.promise(11, "which ROCKET now: of like ones none first");
        LineToWreck x = Check.night("40:0:190:05");
        x.rocket(40, 0);
        which(x, 1, 0);
        // nothing is lost by waiting, as she holds for sure
        which(x, 2, Check.NONE);
        x.minutes(5);
        // no STAGE is left to wait for
        which(x, 2, 0);
        LineToWreck hasty = Check.night("40:0:190:15");
        hasty.rocket(40, 0);
        which(hasty, 2, 0);
    }

    private static void whichTheLeast() {
        CHECK.promise(11, "then the least.");
        LineToWreck x = tenths("999");
        which(x, 1, 0);
        which(x, 4, 0);
        x.fire(0, 0);
        which(x, 1, 1);
        which(x, 4, 1);
        x.fire(2, 0);
        x.fire(1, 0);
        which(x, 2, 3);
        LineToWreck late = calm(10, 120, 43, 40, 42, 45);
        // the first two never fall right, each of the others by 8 of 10
        which(late, 1, 2);
    }

    private static void whichTheBest() {
        CHECK.promise(11, "Which ROCKET to fire now");
        LineToWreck x = Check.night("40:3:262:12340");
        x.rocket(38, 0);
        x.rocket(48, 0);
        x.rocket(43, 0);
        // by 2, 2 and 8 of 10
        which(x, 1, 2);
        LineToWreck y = Check.night("40:5:550:249");
        y.rocket(50, 5);
        which(y, 1, 0);
        which(y, 2, Check.NONE);
        LineToWreck z = Check.night("40:2:253:249");
        z.rocket(48, 5);
        which(z, 1, Check.NONE);
        z.rocket(47, 0);
        which(z, 1, 1);
        which(z, 2, 1);
    }

    private static void whichChangesNothing() {
        CHECK.promise(11, "Which ROCKET to fire now");
        LineToWreck x = halves();
        long before = x.digest();
        which(x, 2, 0);
        which(x, 2, 0);
        CHECK.due("count(1), as none is fired by it", x.count(1), 0);
        CHECK.due("digest()", x.digest(), before);
    }

    private static void whichOutside() {
        CHECK.promise(11, "OUTSIDE: stages");
        for (int stages : new int[] {0, 5, -1, Check.LEAST, Check.MOST}) {
            CHECK.refused("which(" + stages + ")", Check::withoutLine, Check.OUTSIDE, x -> x.which(stages));
        }
        for (int stages = 1; stages <= 4; stages++) {
            which(tenths("1"), stages, 0);
        }
    }

    private static void whichRefusedByState() {
        CHECK.promise(11, "STATE, as aim().");
        CHECK.refused("which(1) without a night", LineToWreck::new, Check.STATE, x -> x.which(1));
        CHECK.refused("which(1) with the line", Check::onTheWay, Check.STATE, x -> x.which(1));
        CHECK.refused("which(1) when she has broken", RocketTest::brokenWithoutLine, Check.STATE, x -> x.which(1));
    }

    private static void whichRefusalsInOrder() {
        CHECK.promise(11, "OUTSIDE: stages; STATE, as aim().");
        for (int stages : new int[] {0, 5}) {
            CHECK.due("which(" + stages + ") without a night", new LineToWreck().which(stages), Check.OUTSIDE);
            CHECK.due("which(" + stages + ") with the line", Check.onTheWay().which(stages), Check.OUTSIDE);
            CHECK.due("which(" + stages + ") when she has broken", brokenWithoutLine().which(stages), Check.OUTSIDE);
        }
    }
}
