/** Promises 7 to 11: rockets, how they fall, and which to fire. */
public final class RocketTest {
    private static final int NONE = -1, UNKNOWN = -101, OUTSIDE = -102, STATE = -103, FULL = -104;
    private static final Check CHECK = new Check();

    public static void main(String[] args) {
        rocket();
        fire();
        hits();
        aim();
        waiting();
        aimRefusals();
        CHECK.end("RocketTest");
    }

    private static void rocket() {
        LineToWreck none = new LineToWreck();
        CHECK.due("no night: rocket(9, 0)", none.rocket(9, 0), OUTSIDE);
        CHECK.due("no night: rocket(10, 0)", none.rocket(10, 0), STATE);
        LineToWreck x = Check.night("40:3:262:12340");
        int[][] outside = {{9, 0}, {121, 0}, {40, -1}, {40, 10}, {Integer.MIN_VALUE, 0}, {40, Integer.MAX_VALUE}};
        for (int[] o : outside) {
            CHECK.refused(x, "rocket(" + o[0] + ", " + o[1] + ")", OUTSIDE, y -> y.rocket(o[0], o[1]));
        }
        CHECK.due("rocket(10, 0)", x.rocket(10, 0), 0);
        CHECK.due("rocket(120, 9)", x.rocket(120, 9), 1);
        for (int i = 2; i < 6; i++) {
            CHECK.due("rocket " + i, x.rocket(40, 0), i);
        }
        CHECK.refused(x, "a seventh rocket", FULL, y -> y.rocket(40, 0));
        CHECK.refused(x, "a seventh rocket outside", OUTSIDE, y -> y.rocket(9, 0));
        CHECK.due("count(0)", x.count(0), 6);
    }

    private static void fire() {
        LineToWreck x = Check.night("40:3:262:1234");
        x.rocket(50, 2);
        x.rocket(46, 0);
        x.rocket(39, 0);
        x.rocket(45, 0);
        x.rocket(20, 9);
        CHECK.refused(x, "fire(5, 0)", UNKNOWN, y -> y.fire(5, 0));
        CHECK.refused(x, "fire(-1, 9)", UNKNOWN, y -> y.fire(-1, 9));
        CHECK.refused(x, "fire(0, 2)", OUTSIDE, y -> y.fire(0, 2));
        CHECK.refused(x, "fire(0, -2)", OUTSIDE, y -> y.fire(0, -2));
        CHECK.due("minutes(14)", x.minutes(14), 14);
        CHECK.due("fire(0, -1) in stage 2", x.fire(0, -1), 50 - 4 - 3);
        CHECK.due("the line", x.count(5), 1);
        CHECK.refused(x, "fire(0, 0) again", STATE, y -> y.fire(0, 0));
        CHECK.due("fire(0, 5) again", x.fire(0, 5), OUTSIDE);
        x.minutes(1);
        CHECK.due("fire(4, 1) in stage 3", x.fire(4, 1), 20 - 27 + 3);
        CHECK.due("count(1)", x.count(1), 2);
        x.breaks();
        CHECK.refused(x, "fire(1, 0) when she has broken", STATE, y -> y.fire(1, 0));
        CHECK.refused(x, "fire(1, 3) when she has broken", OUTSIDE, y -> y.fire(1, 3));
        edge(39, 0);
        edge(40, 1);
        edge(45, 1);
        edge(46, 0);
    }

    private static void edge(int range, int line) {
        LineToWreck x = Check.night("40:3:262:1234");
        x.rocket(range, 0);
        x.rocket(range, 0);
        CHECK.due("fire of range " + range, x.fire(0, 0), range);
        CHECK.due("the line by range " + range, x.count(5), line);
        CHECK.due("fire of a second one", x.fire(1, 1), range + 3);
        CHECK.due("minutes go by no fire", x.count(4), 0);
    }

    private static void hit(LineToWreck x, int rocket, int stage, int above, int below) {
        CHECK.due("hits(" + rocket + ", " + stage + ", 0)", x.hits(rocket, stage, 0), above);
        CHECK.due("hits(" + rocket + ", " + stage + ", 1)", x.hits(rocket, stage, 1), below);
    }

    private static void hits() {
        LineToWreck x = Check.night("40:3:136:12");
        x.rocket(48, 1);
        // falls at 45, 48, 51; a STAGE later at 44, 47, 50, and so on
        hit(x, 0, 0, 1, 10);
        hit(x, 0, 2, 1, 10);
        hit(x, 0, 3, 2, 5);
        hit(x, 0, 5, 2, 5);
        hit(x, 0, 6, 9, 10);
        hit(x, 0, 9, 3, 5);
        x.rocket(120, 0);
        hit(x, 1, 0, 0, 1);
        x.fire(0, 0);
        hit(x, 0, 0, 1, 10);
        LineToWreck still = Check.night("40:0:136:12");
        still.rocket(40, 0);
        hit(still, 0, 0, 1, 1);
        CHECK.refused(x, "hits(2, 0, 0)", UNKNOWN, y -> y.hits(2, 0, 0));
        CHECK.refused(x, "hits(-1, 10, 2)", UNKNOWN, y -> y.hits(-1, 10, 2));
        CHECK.refused(x, "hits(0, 10, 0)", OUTSIDE, y -> y.hits(0, 10, 0));
        CHECK.refused(x, "hits(0, -1, 0)", OUTSIDE, y -> y.hits(0, -1, 0));
        CHECK.refused(x, "hits(0, 0, 2)", OUTSIDE, y -> y.hits(0, 0, 2));
        CHECK.refused(x, "hits(0, 0, -1)", OUTSIDE, y -> y.hits(0, 0, -1));
    }

    private static void aims(LineToWreck x, int stages, int above, int below, int which) {
        CHECK.due("aim(" + stages + ", 0)", x.aim(stages, 0), above);
        CHECK.due("aim(" + stages + ", 1)", x.aim(stages, 1), below);
        CHECK.due("which(" + stages + ")", x.which(stages), which);
    }

    private static void aim() {
        LineToWreck x = Check.night("40:5:505:50");
        aims(x, 1, 0, 1, NONE);
        aims(x, 4, 0, 1, NONE);
        x.rocket(40, 0);
        x.rocket(45, 0);
        aims(x, 1, 1, 2, 0);
        // a half, and else, if she holds, a half again
        aims(x, 2, 5, 8, 0);
        aims(x, 4, 5, 8, 0);
        x.fire(0, -1);
        aims(x, 1, 1, 2, 1);
        aims(x, 2, 1, 2, 1);
        x.minutes(5);
        aims(x, 3, 1, 2, 1);
        x.fire(1, 1);
        aims(x, 1, 0, 1, NONE);
    }

    private static void waiting() {
        // nothing is lost by waiting, as she holds for sure: none comes first
        LineToWreck x = Check.night("40:0:190:05");
        x.rocket(40, 0);
        aims(x, 1, 1, 1, 0);
        aims(x, 2, 1, 1, NONE);
        // a rocket that is better later, and a ship that may not wait
        LineToWreck later = Check.night("40:5:505:259");
        later.rocket(50, 5);
        // 45 and 55 now: a half; 40 and 50 in the next STAGE: a half; 35 and 45 then: a half
        aims(later, 3, 1, 2, 0);
        LineToWreck better = Check.night("40:5:550:249");
        better.rocket(50, 5);
        // a half now; all in the next STAGE, but by 8 of 10 only
        aims(better, 1, 1, 2, 0);
        aims(better, 2, 4, 5, NONE);
        LineToWreck best = Check.night("40:2:253:249");
        best.rocket(48, 5);
        // 46, 48, 50 now; 41, 43, 45 in STAGE 1
        aims(best, 1, 0, 1, NONE);
        aims(best, 2, 4, 5, NONE);
        best.rocket(47, 0);
        // 45, 47, 49: 2 of 10 now, then by 8 of 10 all
        aims(best, 2, 21, 25, 1);
        aims(best, 3, 21, 25, 1);
    }

    private static void aimRefusals() {
        LineToWreck none = new LineToWreck();
        CHECK.due("no night: aim(0, 0)", none.aim(0, 0), OUTSIDE);
        CHECK.due("no night: aim(1, 0)", none.aim(1, 0), STATE);
        CHECK.due("no night: which(5)", none.which(5), OUTSIDE);
        LineToWreck x = Check.night("40:3:262:12340");
        x.rocket(40, 0);
        CHECK.refused(x, "aim(0, 0)", OUTSIDE, y -> y.aim(0, 0));
        CHECK.refused(x, "aim(5, 0)", OUTSIDE, y -> y.aim(5, 0));
        CHECK.refused(x, "aim(1, 2)", OUTSIDE, y -> y.aim(1, 2));
        CHECK.refused(x, "aim(1, -1)", OUTSIDE, y -> y.aim(1, -1));
        CHECK.refused(x, "which(0)", OUTSIDE, y -> y.which(0));
        CHECK.refused(x, "which(5)", OUTSIDE, y -> y.which(5));
        x.image();
        x.fire(0, 0);
        CHECK.refused(x, "aim(1, 0) with the line", STATE, y -> y.aim(1, 0));
        CHECK.refused(x, "which(1) with the line", STATE, y -> y.which(1));
        x.restore();
        CHECK.due("aim(1, 0) without it again", x.aim(1, 0), 4);
        x.breaks();
        CHECK.refused(x, "aim(1, 0) when she has broken", STATE, y -> y.aim(1, 0));
        CHECK.refused(x, "which(1) when she has broken", STATE, y -> y.which(1));
        CHECK.refused(x, "which(9) when she has broken", OUTSIDE, y -> y.which(9));
    }
}
