import java.math.BigInteger;

/** Promises 24 to 26: wrecks, stations, and nights by a seed. */
public final class CoastTest {
    private static final Check CHECK = new Check();

    public static void main(String[] args) {
        wrecksAreCounted();
        wreckLeastAndMost();
        wreckOutside();
        wreckWithoutNight();
        wreckFull();
        wreckRefusalsInOrder();
        wreckAtAnyTime();

        stationsOfNoWreck();
        stationsNoFurtherThanReach();
        stationsLeastAndMostReach();
        stationsAtTheEndOfTheCoast();
        stationsFromTheLeastWreckOn();
        stationsOfManyWrecks();
        stationsOutside();

        nightsWithTheLine();
        nightsWithoutRockets();
        nightsThatMakeTheLine();
        nightsWithoutRocketsLeft();
        nightsInTheLastStage();
        nightsByTenths();
        nightsByGusts();
        nightsOfTheLeastRocketLeft();
        nightsByDampAndStage();
        nightsFromNowOn();
        nightsChangeNothing();
        nightsBySeeds();
        nightsLeastAndMostSeed();
        nightsOutside();
        nightsWithoutNight();
        nightsWhenBroken();
        nightsRefusalsInOrder();
        CHECK.end("CoastTest");
    }

    private static LineToWreck withWrecks(int... places) {
        LineToWreck x = Check.night("50:0:091:0000");
        for (int place : places) {
            x.wreck(place);
        }
        return x;
    }

    private static LineToWreck eightWrecks() {
        return withWrecks(1, 2, 3, 4, 5, 6, 7, 8);
    }

    // ---- promise 24

    private static void wrecksAreCounted() {
        CHECK.promise(24, "A WRECK at a place of the coast: how many there are.");
        LineToWreck x = withWrecks();
        int[] places = {50, 20, 50, 80, 99, 0, 1, 50};
        for (int i = 0; i < 8; i++) {
            CHECK.due("wreck(" + places[i] + ")", x.wreck(places[i]), i + 1);
            CHECK.due("count(10)", x.count(10), i + 1);
        }
        CHECK.due("stations(0, 0)", x.stations(0, 0), 6);
    }

    private static void wreckLeastAndMost() {
        CHECK.promise(24, "OUTSIDE: place (0 to 99)");
        LineToWreck x = withWrecks();
        CHECK.due("wreck(99)", x.wreck(99), 1);
        CHECK.due("stations(0, 1)", x.stations(0, 1), 99);
        CHECK.due("wreck(0)", x.wreck(0), 2);
        CHECK.due("stations(0, 1)", x.stations(0, 1), 0);
    }

    private static void wreckOutside() {
        CHECK.promise(24, "OUTSIDE: place (0 to 99)");
        for (int place : new int[] {-1, 100, Check.LEAST, Check.MOST}) {
            CHECK.refused("wreck(" + place + ")", Check::onTheWay, Check.OUTSIDE, x -> x.wreck(place));
        }
    }

    private static void wreckWithoutNight() {
        CHECK.promise(24, "STATE: no NIGHT");
        CHECK.refused("wreck(0)", LineToWreck::new, Check.STATE, x -> x.wreck(0));
        CHECK.refused("wreck(99)", LineToWreck::new, Check.STATE, x -> x.wreck(99));
    }

    private static void wreckFull() {
        CHECK.promise(24, "WRECKS on a coast of 0 to 99 (8 at most).");
        CHECK.due("count(10) of eight", eightWrecks().count(10), 8);
        CHECK.promise(24, "FULL.");
        CHECK.refused("wreck 9", CoastTest::eightWrecks, Check.FULL, x -> x.wreck(0));
        CHECK.refused("wreck 9, at a place of one", CoastTest::eightWrecks, Check.FULL, x -> x.wreck(8));
    }

    private static void wreckRefusalsInOrder() {
        CHECK.promise(24, "OUTSIDE: place (0 to 99); STATE: no NIGHT; FULL.");
        for (int place : new int[] {-1, 100}) {
            CHECK.due("wreck(" + place + ") without a night", new LineToWreck().wreck(place), Check.OUTSIDE);
            CHECK.due("wreck(" + place + ") as the ninth", eightWrecks().wreck(place), Check.OUTSIDE);
        }
    }

    private static void wreckAtAnyTime() {
        CHECK.promise(24, "A WRECK at a place of the coast: how many there are.");
        CHECK.due("wreck(5) when she has broken", Check.broken().wreck(5), 4);
    }

    // ---- promise 25

    private static void station(LineToWreck x, int reach, int few, int first) {
        CHECK.due("stations(" + reach + ", 0)", x.stations(reach, 0), few);
        CHECK.due("stations(" + reach + ", 1)", x.stations(reach, 1), first);
    }

    private static void stationsOfNoWreck() {
        CHECK.promise(25, "1 where the first one stands (NONE: none is wanted).");
        station(new LineToWreck(), 0, 0, Check.NONE);
        station(new LineToWreck(), 50, 0, Check.NONE);
        station(withWrecks(), 0, 0, Check.NONE);
        station(withWrecks(), 50, 0, Check.NONE);
    }

    private static void stationsNoFurtherThanReach() {
        CHECK.promise(25, "STATIONS: the fewest PLACES (0 to 99) so that each WRECK is no further than REACH from one");
        LineToWreck x = withWrecks(40, 61);
        station(x, 10, 2, 50);
        // 51 is 11 from the one and 10 from the other
        station(x, 11, 1, 51);
        LineToWreck y = withWrecks(40, 60);
        station(y, 9, 2, 49);
        station(y, 10, 1, 50);
        LineToWreck near = withWrecks(7, 8);
        station(near, 0, 2, 7);
        station(near, 1, 1, 8);
        LineToWreck same = withWrecks(7, 7);
        station(same, 0, 1, 7);
    }

    private static void stationsLeastAndMostReach() {
        CHECK.promise(25, "OUTSIDE: reach (0 to 50)");
        LineToWreck x = withWrecks(0, 99);
        station(x, 0, 2, 0);
        station(x, 49, 2, 49);
        station(x, 50, 1, 50);
        LineToWreck eight = withWrecks(10, 20, 30, 40, 50, 60, 70, 80);
        station(eight, 0, 8, 10);
        station(eight, 50, 1, 60);
    }

    private static void stationsAtTheEndOfTheCoast() {
        CHECK.promise(25, "stands as far on as it can (99 at most).");
        LineToWreck x = withWrecks(95);
        station(x, 3, 1, 98);
        station(x, 4, 1, 99);
        station(x, 5, 1, 99);
        station(x, 50, 1, 99);
        LineToWreck y = withWrecks(99);
        station(y, 0, 1, 99);
        station(y, 1, 1, 99);
        station(withWrecks(99, 60), 39, 1, 99);
        station(withWrecks(99, 60), 50, 1, 99);
    }

    private static void stationsFromTheLeastWreckOn() {
        CHECK.promise(25, "where the first one stands, if each, from the least WRECK on");
        LineToWreck x = withWrecks(95, 40, 61, 40, 0);
        station(x, 0, 4, 0);
        station(x, 20, 2, 20);
        station(x, 10, 4, 10);
        station(x, 30, 2, 30);
        station(x, 48, 1, 48);
        station(x, 47, 2, 47);
    }

    private static void stationsOfManyWrecks() {
        CHECK.promise(25, "STATIONS: what = 0 how few");
        LineToWreck x = withWrecks(3, 9, 12, 33, 38, 60, 61, 90);
        station(x, 0, 8, 3);
        // 3 with 9 at 6; 12; 33 with 38 at 36; 60 with 61 at 63; 90
        station(x, 3, 5, 6);
        // 3, 9, 12 at 8; 33 with 38 at 38; 60 with 61 at 65; 90
        station(x, 5, 4, 8);
        station(x, 20, 2, 23);
        x.breaks();
        station(x, 20, 2, 23);
    }

    private static void stationsOutside() {
        CHECK.promise(25, "OUTSIDE: reach (0 to 50), what.");
        for (int reach : new int[] {-1, 51, Check.LEAST, Check.MOST}) {
            CHECK.refused("stations(" + reach + ", 0)", Check::onTheWay, Check.OUTSIDE, x -> x.stations(reach, 0));
            CHECK.refused("stations(" + reach + ", 1)", LineToWreck::new, Check.OUTSIDE, x -> x.stations(reach, 1));
        }
        for (int what : new int[] {-1, 2, Check.LEAST, Check.MOST}) {
            CHECK.refused("stations(0, " + what + ")", Check::onTheWay, Check.OUTSIDE, x -> x.stations(0, what));
            CHECK.refused("stations(0, " + what + ")", LineToWreck::new, Check.OUTSIDE, x -> x.stations(0, what));
        }
    }

    // ---- promise 26

    private static void ends(LineToWreck x, int seed, int line, int shots, int broken, int last) {
        CHECK.due("nights(" + seed + ", 0)", x.nights(seed, 0), line);
        CHECK.due("nights(" + seed + ", 1)", x.nights(seed, 1), shots);
        CHECK.due("nights(" + seed + ", 2)", x.nights(seed, 2), broken);
        CHECK.due("nights(" + seed + ", 3)", x.nights(seed, 3), last);
    }

    /** Reckoned with whole numbers of any size, so that nothing wraps around. */
    private static int next(int seed) {
        return BigInteger.valueOf(1103515245).multiply(BigInteger.valueOf(seed)).add(BigInteger.valueOf(12345))
                .mod(BigInteger.TWO.pow(31)).intValueExact();
    }

    private static int draw(int seed) {
        return seed / 65536 % 10;
    }

    private static void nightsWithTheLine() {
        CHECK.promise(26, "where THE LINE is there, or no ROCKET is left, as it begins, it ends at once (nothing is drawn).");
        LineToWreck x = Check.night("50:0:091:9999");
        x.rocket(50, 0);
        x.rocket(50, 0);
        x.fire(0, 0);
        ends(x, 7, 1, 0, 0, 7);
        ends(x, Check.MOST, 1, 0, 0, Check.MOST);
    }

    private static void nightsWithoutRockets() {
        CHECK.promise(26, "or no ROCKET is left, as it begins, it ends at once (nothing is drawn).");
        LineToWreck x = Check.night("50:0:091:9");
        ends(x, 7, 0, 0, 0, 7);
        x.rocket(40, 0);
        x.fire(0, 0);
        ends(x, 8, 0, 0, 0, 8);
        ends(x, Check.MOST, 0, 0, 0, Check.MOST);
    }

    private static void nightsThatMakeTheLine() {
        CHECK.promise(26, "it ends as THE LINE is made (nothing is drawn then)");
        LineToWreck x = Check.night("50:0:091:9");
        x.rocket(50, 0);
        x.rocket(50, 0);
        for (int seed = 0; seed < 20; seed++) {
            ends(x, seed, 1, 1, 0, next(seed));
        }
    }

    private static void nightsWithoutRocketsLeft() {
        CHECK.promise(26, "or behind the end of a STAGE when no ROCKET is left, or SHE has BROKEN");
        LineToWreck x = Check.night("50:0:091:00");
        x.rocket(40, 0);
        for (int seed = 0; seed < 20; seed++) {
            // a gust, and whether she breaks: the second STAGE is not gone through
            ends(x, seed, 0, 1, 0, next(next(seed)));
        }
        LineToWreck three = Check.night("50:0:091:000");
        three.rocket(40, 0);
        three.rocket(40, 0);
        ends(three, 5, 0, 2, 0, next(next(next(next(5)))));
    }

    private static void nightsInTheLastStage() {
        CHECK.promise(26, "(in the last one whatever is drawn)");
        LineToWreck x = Check.night("50:0:091:00");
        x.rocket(40, 0);
        x.rocket(40, 0);
        x.rocket(40, 0);
        for (int seed = 0; seed < 20; seed++) {
            // it is drawn in the end of the last STAGE, too
            ends(x, seed, 0, 2, 1, next(next(next(next(seed)))));
        }
        LineToWreck one = Check.night("50:0:091:0");
        one.rocket(40, 0);
        ends(one, 3, 0, 1, 1, next(next(3)));
    }

    private static void nightsByTenths() {
        CHECK.promise(26, "then SHE BREAKS in the end, if a DRAW of 10 is below its TENTHS");
        int broke = 0;
        for (int tenths = 0; tenths <= 9; tenths++) {
            LineToWreck x = Check.night("50:0:091:" + tenths + (9 - tenths) + "0");
            x.rocket(40, 0);
            for (int seed = 0; seed < 30; seed++) {
                int drawn = draw(next(next(seed)));
                ends(x, seed, 0, 1, drawn < tenths ? 1 : 0, next(next(seed)));
                broke += drawn == tenths ? 1 : 0;
            }
        }
        CHECK.due("whether a draw was like the tenths at times", broke > 9 ? 1 : 0, 1);
    }

    private static void nightsByGusts() {
        CHECK.promise(26, "(the GUST by a DRAW of 10: below the first TENTHS against, below the first two together none,"
                + " else on)");
        for (int seed = 0; seed < 60; seed++) {
            int first = next(seed);
            int drawn = draw(first);
            rightBy(59, drawn < 3, seed);
            rightBy(50, drawn >= 3 && drawn < 5, seed);
            rightBy(41, drawn >= 5, seed);
        }
    }

    /** By WIND 9 and FAR 50 a RANGE of 59 is right by a GUST against alone, 50 by none, 41 by one on. */
    private static void rightBy(int range, boolean right, int seed) {
        LineToWreck x = Check.night("50:9:325:00");
        x.rocket(range, 0);
        int first = next(seed);
        ends(x, seed, right ? 1 : 0, 1, 0, right ? first : next(first));
    }

    private static void nightsOfTheLeastRocketLeft() {
        CHECK.promise(26, "the least ROCKET that is left is fired in its beginning, while there is no LINE");
        LineToWreck x = Check.night("50:0:091:000");
        x.rocket(40, 0);
        x.rocket(50, 0);
        x.rocket(50, 0);
        // the first one misses, the second one makes the line
        ends(x, 4, 1, 2, 0, next(next(next(4))));
        x.fire(0, 0);
        ends(x, 4, 1, 1, 0, next(4));
        LineToWreck y = Check.night("50:0:091:000");
        y.rocket(40, 0);
        y.rocket(40, 0);
        y.rocket(50, 0);
        y.fire(1, 0);
        ends(y, 4, 1, 2, 0, next(next(next(4))));
    }

    private static void nightsByDampAndStage() {
        CHECK.promise(26, "from now on STAGE by STAGE");
        LineToWreck x = Check.night("50:0:091:0000");
        x.rocket(40, 0);
        // at 53 in STAGE 1
        x.rocket(59, 6);
        ends(x, 9, 1, 2, 0, next(next(next(9))));
        x.minutes(5);
        // at 47 in STAGE 2
        ends(x, 9, 0, 2, 0, next(next(next(next(9)))));
        LineToWreck gusty = Check.night("50:9:235:44");
        gusty.rocket(46, 0);
        gusty.rocket(55, 0);
        for (int seed = 0; seed < 60; seed++) {
            gustyNight(gusty, seed);
        }
    }

    private static void gustyNight(LineToWreck x, int seed) {
        int first = next(seed);
        if (draw(first) >= 5) {
            ends(x, seed, 1, 1, 0, first);
            return;
        }
        int second = next(first);
        if (draw(second) < 4) {
            ends(x, seed, 0, 1, 1, second);
            return;
        }
        int third = next(second);
        if (draw(third) >= 2 && draw(third) < 5) {
            ends(x, seed, 1, 2, 0, third);
            return;
        }
        ends(x, seed, 0, 2, 1, next(third));
    }

    private static void nightsFromNowOn() {
        CHECK.promise(26, "NIGHTS by a SEED, as they would be: from now on");
        LineToWreck x = Check.night("50:0:091:00");
        x.rocket(40, 0);
        x.rocket(40, 0);
        x.minutes(4);
        ends(x, 3, 0, 2, 1, next(next(next(next(3)))));
        x.minutes(1);
        ends(x, 3, 0, 1, 1, next(next(3)));
    }

    private static void nightsChangeNothing() {
        CHECK.promise(26, "NIGHTS by a SEED, as they would be");
        LineToWreck x = Check.night("50:0:091:99");
        x.rocket(40, 0);
        x.rocket(50, 0);
        long before = x.digest();
        for (int seed = 0; seed < 10; seed++) {
            x.nights(seed, 0);
        }
        CHECK.due("count(1)", x.count(1), 0);
        CHECK.due("count(5)", x.count(5), 0);
        CHECK.due("count(6)", x.count(6), 0);
        CHECK.due("digest()", x.digest(), before);
    }

    private static void nightsBySeeds() {
        CHECK.promise(26, "DRAWS: the next SEED each time: 1103515245 times it and 12345, its rest by 2 to the 31; then that"
                + " by 65536 (rounded down), its rest.");
        LineToWreck x = Check.night("50:0:091:9");
        x.rocket(50, 0);
        CHECK.due("nights(0, 3)", x.nights(0, 3), 12345);
        CHECK.due("nights(1, 3)", x.nights(1, 3), 1103527590);
        // 2207042835 is above 2 to the 31
        CHECK.due("nights(2, 3)", x.nights(2, 3), 59559187);
        CHECK.due("nights(2147483647, 3)", x.nights(Check.MOST, 3), 1043980748);
        CHECK.due("nights(1073741824, 3)", x.nights(1073741824, 3), 1073754169);
        int seed = 141;
        for (int i = 0; i < 100; i++) {
            CHECK.due("nights(" + seed + ", 3)", x.nights(seed, 3), next(seed));
            seed = next(seed);
        }
    }

    private static void nightsLeastAndMostSeed() {
        CHECK.promise(26, "OUTSIDE: seed (0 at least), what");
        LineToWreck x = Check.night("50:0:091:9");
        x.rocket(50, 0);
        ends(x, 0, 1, 1, 0, 12345);
        ends(x, 1, 1, 1, 0, 1103527590);
        ends(x, Check.MOST, 1, 1, 0, 1043980748);
    }

    private static void nightsOutside() {
        CHECK.promise(26, "OUTSIDE: seed (0 at least), what");
        for (int seed : new int[] {-1, -2, Check.LEAST}) {
            CHECK.refused("nights(" + seed + ", 0)", Check::withoutLine, Check.OUTSIDE, x -> x.nights(seed, 0));
        }
        for (int what : new int[] {-1, 4, Check.LEAST, Check.MOST}) {
            CHECK.refused("nights(0, " + what + ")", Check::withoutLine, Check.OUTSIDE, x -> x.nights(0, what));
        }
        CHECK.promise(26, "NIGHTS: what = 0 whether THE LINE is there then (1, 0), 1 how many ROCKETS were fired in it, 2"
                + " whether SHE has BROKEN, 3 the SEED then.");
        LineToWreck x = Check.night("50:0:091:9");
        x.rocket(40, 0);
        ends(x, 0, 0, 1, 1, next(12345));
    }

    private static void nightsWithoutNight() {
        CHECK.promise(26, "STATE: no NIGHT");
        CHECK.refused("nights(0, 0)", LineToWreck::new, Check.STATE, x -> x.nights(0, 0));
        CHECK.refused("nights(0, 3)", LineToWreck::new, Check.STATE, x -> x.nights(0, 3));
    }

    private static void nightsWhenBroken() {
        CHECK.promise(26, "or SHE has BROKEN.");
        CHECK.refused("nights(0, 0)", Check::broken, Check.STATE, x -> x.nights(0, 0));
        CHECK.refused("nights(0, 2)", Check::broken, Check.STATE, x -> x.nights(0, 2));
    }

    private static void nightsRefusalsInOrder() {
        CHECK.promise(26, "OUTSIDE: seed (0 at least), what; STATE: no NIGHT, or SHE has BROKEN.");
        int[][] outside = {{-1, 0}, {0, -1}, {0, 4}, {-1, 4}};
        for (int[] o : outside) {
            String call = "nights(" + o[0] + ", " + o[1] + ")";
            CHECK.due(call + " without a night", new LineToWreck().nights(o[0], o[1]), Check.OUTSIDE);
            CHECK.due(call + " when she has broken", Check.broken().nights(o[0], o[1]), Check.OUTSIDE);
        }
    }
}
