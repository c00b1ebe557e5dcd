/** Refusals of all calls, by whatever numbers, one behind the other: each as told, and nothing is changed by all of them. */
public final class RefusalTest {
    private static final int U = Check.UNKNOWN, O = Check.OUTSIDE, S = Check.STATE, F = Check.FULL;
    private static final int[] FAR_OFF = {-1, 1000, Check.LEAST, Check.MOST};
    private static final Check CHECK = new Check();

    public static void main(String[] args) {
        numbersThatNameNothing();
        numbersThatAreNotAsTold();
        stateOfANewObject();
        stateOfOneThatHasBroken();
        allThatIsFull();
        CHECK.end("RefusalTest");
    }

    /** As many calls at once as the 512 of one object leave room for, with those that look whether it is as it was. */
    private static void rowRefused(String name, Check.Made made, Check.Call[] row, int want) {
        for (int i = 0; i < row.length; i++) {
            CHECK.due(name + ", call " + i + " of the row", row[i].of(made.anew()), want);
        }
        CHECK.refused(name + ", one behind the other", made, want, x -> {
            long last = 0;
            for (Check.Call call : row) {
                last = call.of(x);
            }
            return last;
        });
    }

    private static void numbersThatNameNothing() {
        CHECK.promise(8, "Refusals, of several the first as told by each call: UNKNOWN (a number names nothing)");
        for (int n : FAR_OFF) {
            Check.Call[] row = {x -> x.fire(n, n), x -> x.hits(n, n, n), x -> x.about(n, n), x -> x.as(n, n),
                x -> x.behind(n, 0, true), x -> x.behind(0, n, false), x -> x.come(n), x -> x.said(n, 0),
                x -> x.said(0, n), x -> x.sure(n)};
            rowRefused("by " + n, Check::onTheWay, row, U);
            rowRefused("by " + n + " when she has broken", Check::broken, row, U);
            rowRefused("by " + n + " without a night", LineToWreck::new, row, U);
            rowRefused("by " + n + " when all is full", RefusalTest::full, row, U);
        }
    }

    private static void numbersThatAreNotAsTold() {
        CHECK.promise(2, "OUTSIDE (it is not as told)");
        for (int n : FAR_OFF) {
            int seed = Math.min(n, -1);
            Check.Call[] row = {x -> x.letter(n), x -> x.sea(n), x -> x.rocket(n, 0), x -> x.rocket(40, n),
                x -> x.aim(n, 0), x -> x.aim(1, n), x -> x.which(n), x -> x.man(n, 1), x -> x.man(0, n), x -> x.hawser(n),
                x -> x.minutes(n), x -> x.order(n), x -> x.wreck(n), x -> x.stations(n, 0), x -> x.stations(0, n),
                x -> x.nights(seed, 0), x -> x.nights(0, n), x -> x.count(n)};
            rowRefused("by " + n, Check::onTheWay, row, O);
            rowRefused("by " + n + " when she has broken", Check::broken, row, O);
            rowRefused("by " + n + " without a night", LineToWreck::new, row, O);
            rowRefused("by " + n + " when all is full", RefusalTest::full, row, O);
        }
    }

    private static void stateOfANewObject() {
        CHECK.promise(5, "STATE (as told)");
        Check.Call[] row = {LineToWreck::night, x -> x.sea(0), x -> x.rocket(40, 0), x -> x.aim(1, 0), x -> x.which(1),
            x -> x.man(0, 1), x -> x.hawser(1), x -> x.minutes(1), LineToWreck::breaks, x -> x.order(0), x -> x.wreck(0),
            x -> x.nights(0, 0), LineToWreck::image, LineToWreck::restore};
        rowRefused("without a night", LineToWreck::new, row, S);
        rowRefused("with a page that is none", () -> Check.page(new LineToWreck(), "40:3:262"), row, S);
    }

    private static void stateOfOneThatHasBroken() {
        CHECK.promise(19, "STATE (as told)");
        Check.Call[] row = {LineToWreck::night, x -> x.fire(2, 0), x -> x.fire(1, 0), x -> x.aim(1, 0), x -> x.which(1),
            x -> x.come(0), x -> x.come(1), x -> x.minutes(1), x -> x.order(0), x -> x.nights(0, 0), LineToWreck::breaks};
        rowRefused("when she has broken", Check::broken, row, S);
    }

    /** THE PAGE, ROCKETS, MEN, what was SAID, WRECKS: of each as many as there can be. */
    private static LineToWreck full() {
        LineToWreck x = Check.night("40:3:262:1234056");
        for (int i = 0; i < 6; i++) {
            x.rocket(40 + i, 0);
            x.man(i % 4, 5 + i);
        }
        for (int i = 0; i < 15; i++) {
            x.said(i % 5, 5);
        }
        for (int i = 0; i < 8; i++) {
            x.wreck(10 * i);
        }
        x.image();
        return Check.page(x, "40:3:262:1234567890123");
    }

    private static void allThatIsFull() {
        CHECK.promise(2, "FULL; they change nothing.");
        Check.Call[] row = {x -> x.letter(1), x -> x.letter(126), x -> x.rocket(10, 0), x -> x.rocket(120, 9),
            x -> x.man(0, 1), x -> x.man(4, 30), x -> x.said(0, 1), x -> x.said(5, 4), x -> x.wreck(0), x -> x.wreck(99)};
        rowRefused("when all is full", RefusalTest::full, row, F);
    }
}
