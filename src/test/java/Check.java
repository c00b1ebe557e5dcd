/** Counts what is not as due, for one test class. */
final class Check {
    interface Call {
        long of(LineToWreck x);
    }

    private int asked;
    private int wrong;

    void due(String call, long got, long want) {
        asked++;
        if (got != want) {
            wrong++;
            System.out.println(call + " answered " + got + ", due is " + want);
        }
    }

    /** A refused call answers so, and changes nothing that can be told. */
    void refused(LineToWreck x, String name, long want, Call call) {
        String before = told(x);
        due(name, call.of(x), want);
        asked++;
        if (!before.equals(told(x))) {
            wrong++;
            System.out.println(name + " was refused and changed something");
        }
    }

    void end(String name) {
        System.out.println(name + ": " + asked + " asked, " + wrong + " wrong");
        if (wrong != 0 || asked == 0) {
            System.exit(1);
        }
    }

    static LineToWreck page(LineToWreck x, String text) {
        for (int i = 0; i < text.length(); i++) {
            x.letter(text.charAt(i));
        }
        return x;
    }

    static LineToWreck night(String text) {
        LineToWreck x = page(new LineToWreck(), text);
        if (x.night() < 0) {
            throw new IllegalStateException("no night: " + text);
        }
        return x;
    }

    /** What shows a change, in few calls: an object is promised for 512 of them. */
    static String told(LineToWreck x) {
        StringBuilder all = new StringBuilder();
        all.append(x.digest()).append(' ').append(x.fault());
        all.append(' ').append(x.aim(4, 0)).append(' ').append(x.which(4));
        all.append(' ').append(x.stations(0, 0)).append(' ').append(x.stations(0, 1));
        return all.append(' ').append(x.nights(1, 3)).append(' ').append(x.sure(0)).toString();
    }
}
