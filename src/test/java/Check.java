import java.util.List;

/** Counts what is not as due, for one test class, and says by which promise and by which of its words it was due. */
final class Check {
    static final int NONE = -1, UNKNOWN = -101, OUTSIDE = -102, STATE = -103, FULL = -104;
    static final int LEAST = Integer.MIN_VALUE, MOST = Integer.MAX_VALUE;

    /** Makes an object anew, by the same calls each time. */
    interface Made {
        LineToWreck anew();
    }

    interface Call {
        long of(LineToWreck x);
    }

    private String about = "";
    private int asked;
    private int wrong;

    /** What is asked from here on is due by these words of the document; QuotesTest holds that they stand there. */
    void promise(int number, String words) {
        about = "promise " + number + " (" + words + "): ";
    }

    void due(String call, long got, long want) {
        asked++;
        if (got != want) {
            wrong++;
            System.out.println(about + call + " answered " + got + ", due is " + want);
        }
    }

    /** A refused call answers so, and all that is asked or done from then on goes as if it had never been. */
    void refused(String call, Made made, long want, Call refused) {
        LineToWreck x = made.anew();
        due(call, refused.of(x), want);
        asked++;
        List<String> with = Probe.all(x);
        List<String> without = Probe.all(made.anew());
        for (int i = 0; i < without.size(); i++) {
            if (!with.get(i).equals(without.get(i))) {
                wrong++;
                System.out.println(about + call + " was refused and changed something: behind it " + with.get(i)
                        + ", without it " + without.get(i));
                return;
            }
        }
    }

    void end(String name) {
        System.out.println(name + ": " + asked + " asked, " + wrong + " wrong");
        if (wrong != 0 || asked == 0) {
            System.exit(1);
        }
    }

    static LineToWreck page(LineToWreck x, String text) {
        for (int i = 0; i < text.length(); i++) {
            x.letter(text.charAt(i));
        }
        return x;
    }

    static LineToWreck night(String text) {
        LineToWreck x = page(new LineToWreck(), text);
        if (x.night() < 0) {
            throw new IllegalStateException("no night: " + text);
        }
        return x;
    }

    /** A night with something of all that there is, and no LINE yet. */
    static LineToWreck withoutLine() {
        LineToWreck x = night("40:3:262:1234056");
        x.rocket(38, 0);
        x.rocket(44, 1);
        x.rocket(41, 0);
        x.man(0, 10);
        x.man(1, 22);
        x.man(4, 18);
        x.behind(0, 1, true);
        x.hawser(9);
        x.said(1, 0);
        x.wreck(70);
        x.wreck(12);
        x.image();
        x.fire(0, 0);
        x.minutes(2);
        x.hawser(7);
        x.order(0);
        return page(x, "5x");
    }

    /** The same later on: THE LINE is there, and one man is over. */
    static LineToWreck onTheWay() {
        LineToWreck x = withoutLine();
        x.fire(1, 0);
        x.come(1);
        x.said(1, 2);
        x.wreck(31);
        return x;
    }

    /** The same when SHE has BROKEN. */
    static LineToWreck broken() {
        LineToWreck x = onTheWay();
        x.breaks();
        return x;
    }
}
