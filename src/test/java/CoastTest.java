/** Promises 24 to 26: wrecks, stations, and nights by a seed. */
public final class CoastTest {
    private static final int NONE = -1, OUTSIDE = -102, STATE = -103, FULL = -104;
    private static final Check CHECK = new Check();

    public static void main(String[] args) {
        wreck();
        stations();
        nightsEndAtOnce();
        nightsByDraws();
        nightsByGustsAgainst();
        nightsRefusals();
        CHECK.end("CoastTest");
    }

    private static void wreck() {
        LineToWreck none = new LineToWreck();
        CHECK.due("no night: wreck(100)", none.wreck(100), OUTSIDE);
        CHECK.due("no night: wreck(0)", none.wreck(0), STATE);
        LineToWreck x = Check.night("50:0:091:0000");
        CHECK.refused(x, "wreck(-1)", OUTSIDE, y -> y.wreck(-1));
        CHECK.refused(x, "wreck(100)", OUTSIDE, y -> y.wreck(100));
        x.breaks();
        for (int i = 1; i <= 8; i++) {
            CHECK.due("wreck " + i, x.wreck(i % 2 == 0 ? 0 : 99), i);
        }
        CHECK.refused(x, "wreck 9", FULL, y -> y.wreck(50));
        CHECK.refused(x, "wreck 9 outside", OUTSIDE, y -> y.wreck(100));
        CHECK.due("count(10)", x.count(10), 8);
    }

    private static void station(LineToWreck x, int reach, int few, int first) {
        CHECK.due("stations(" + reach + ", 0)", x.stations(reach, 0), few);
        CHECK.due("stations(" + reach + ", 1)", x.stations(reach, 1), first);
    }

    private static void stations() {
        LineToWreck x = Check.night("50:0:091:0000");
        station(x, 10, 0, NONE);
        x.wreck(95);
        station(x, 3, 1, 98);
        station(x, 4, 1, 99);
        station(x, 5, 1, 99);
        x.wreck(40);
        x.wreck(61);
        x.wreck(40);
        station(x, 0, 3, 40);
        station(x, 10, 3, 50);
        station(x, 11, 2, 51);
        station(x, 17, 2, 57);
        station(x, 27, 2, 67);
        station(x, 28, 1, 68);
        station(x, 50, 1, 90);
        x.wreck(0);
        station(x, 20, 2, 20);
        station(x, 50, 1, 50);
        LineToWreck ends = Check.night("50:0:091:0000");
        ends.wreck(99);
        station(ends, 0, 1, 99);
        ends.wreck(0);
        station(ends, 0, 2, 0);
        station(ends, 49, 2, 49);
        station(ends, 50, 1, 50);
        CHECK.refused(x, "stations(-1, 0)", OUTSIDE, y -> y.stations(-1, 0));
        CHECK.refused(x, "stations(51, 0)", OUTSIDE, y -> y.stations(51, 0));
        CHECK.refused(x, "stations(5, 2)", OUTSIDE, y -> y.stations(5, 2));
        CHECK.refused(x, "stations(5, -1)", OUTSIDE, y -> y.stations(5, -1));
    }

    private static void ends(LineToWreck x, int seed, int line, int shots, int broken, int last) {
        CHECK.due("nights(" + seed + ", 0)", x.nights(seed, 0), line);
        CHECK.due("nights(" + seed + ", 1)", x.nights(seed, 1), shots);
        CHECK.due("nights(" + seed + ", 2)", x.nights(seed, 2), broken);
        CHECK.due("nights(" + seed + ", 3)", x.nights(seed, 3), last);
    }

    private static int next(int seed) {
        return (int) ((1103515245L * seed + 12345) & 0x7fffffff);
    }

    private static int draw(int seed) {
        return seed / 65536 % 10;
    }

    private static void nightsEndAtOnce() {
        LineToWreck x = Check.night("50:0:091:0000");
        ends(x, 7, 0, 0, 0, 7);
        x.rocket(40, 0);
        x.fire(0, 0);
        ends(x, Integer.MAX_VALUE, 0, 0, 0, Integer.MAX_VALUE);
        x.rocket(50, 0);
        x.rocket(50, 0);
        // one draw, for the gust: the line is there
        ends(x, 7, 1, 1, 0, next(7));
        x.fire(1, 0);
        ends(x, 7, 1, 0, 0, 7);
        CHECK.due("the seed of old", next(0), 12345);
    }

    private static void nightsByDraws() {
        LineToWreck x = Check.night("50:0:091:00");
        x.rocket(40, 0);
        for (int seed = 0; seed < 20; seed++) {
            // no rocket left behind the first stage: a gust, and whether she breaks
            ends(x, seed, 0, 1, 0, next(next(seed)));
        }
        x.rocket(40, 0);
        x.rocket(40, 0);
        for (int seed = 0; seed < 20; seed++) {
            // in the end of the last stage she breaks, whatever is drawn
            ends(x, seed, 0, 2, 1, next(next(next(next(seed)))));
        }
        x.minutes(5);
        ends(x, 3, 0, 1, 1, next(next(3)));
        CHECK.due("nothing is fired", x.count(1), 0);
        LineToWreck gusty = Check.night("50:9:235:44");
        gusty.rocket(46, 0);
        gusty.rocket(55, 0);
        for (int seed = 0; seed < 60; seed++) {
            gustyNight(gusty, seed);
        }
    }

    /** One rocket, right by a gust against alone, and a ship that holds in the first STAGE. */
    private static void nightsByGustsAgainst() {
        LineToWreck x = Check.night("50:9:325:00");
        x.rocket(59, 0);
        for (int seed = 0; seed < 60; seed++) {
            int first = next(seed);
            boolean right = draw(first) < 3;
            ends(x, seed, right ? 1 : 0, 1, 0, right ? first : next(first));
        }
    }

    private static void gustyNight(LineToWreck x, int seed) {
        int first = next(seed);
        if (draw(first) >= 5) {
            ends(x, seed, 1, 1, 0, first);
            return;
        }
        int second = next(first);
        if (draw(second) < 4) {
            ends(x, seed, 0, 1, 1, second);
            return;
        }
        int third = next(second);
        if (draw(third) >= 2 && draw(third) < 5) {
            ends(x, seed, 1, 2, 0, third);
            return;
        }
        ends(x, seed, 0, 2, 1, next(third));
    }

    private static void nightsRefusals() {
        LineToWreck none = new LineToWreck();
        CHECK.due("no night: nights(-1, 0)", none.nights(-1, 0), OUTSIDE);
        LineToWreck x = Check.night("50:0:091:0000");
        x.rocket(50, 0);
        CHECK.refused(x, "nights(-1, 0)", OUTSIDE, y -> y.nights(-1, 0));
        CHECK.refused(x, "nights(0, -1)", OUTSIDE, y -> y.nights(0, -1));
        CHECK.refused(x, "nights(0, 4)", OUTSIDE, y -> y.nights(0, 4));
        x.breaks();
        CHECK.refused(x, "nights(0, 0) when she has broken", STATE, y -> y.nights(0, 0));
        CHECK.refused(x, "nights(0, 4) when she has broken", OUTSIDE, y -> y.nights(0, 4));
    }
}
