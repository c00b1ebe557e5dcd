/** Promises 1 to 6: a new object, THE PAGE and THE NIGHT. */
public final class NightTest {
    private static final int OUTSIDE = -102, STATE = -103, FULL = -104;
    private static final Check CHECK = new Check();

    public static void main(String[] args) {
        newObject();
        letters();
        faults();
        nights();
        nightEndsTheOneBefore();
        sea();
        CHECK.end("NightTest");
    }

    private static void newObject() {
        LineToWreck x = new LineToWreck();
        for (int what = 0; what <= 13; what++) {
            CHECK.due("new: count(" + what + ")", x.count(what), what == 8 ? 60 : 0);
        }
        CHECK.due("new: fault()", x.fault(), 0);
        CHECK.due("new: blank()", x.blank(), 0);
        CHECK.due("new: orders()", x.orders(), 1);
        CHECK.due("new: stations(5, 0)", x.stations(5, 0), 0);
        CHECK.due("new: stations(5, 1)", x.stations(5, 1), -1);
        CHECK.refused(x, "new: night()", STATE, LineToWreck::night);
        CHECK.refused(x, "new: sea(0)", STATE, y -> y.sea(0));
        CHECK.refused(x, "new: rocket", STATE, y -> y.rocket(40, 0));
        CHECK.refused(x, "new: aim", STATE, y -> y.aim(1, 0));
        CHECK.refused(x, "new: which", STATE, y -> y.which(1));
        CHECK.refused(x, "new: man", STATE, y -> y.man(0, 10));
        CHECK.refused(x, "new: hawser", STATE, y -> y.hawser(5));
        CHECK.refused(x, "new: minutes", STATE, y -> y.minutes(1));
        CHECK.refused(x, "new: breaks", STATE, LineToWreck::breaks);
        CHECK.refused(x, "new: order", STATE, y -> y.order(0));
        CHECK.refused(x, "new: wreck", STATE, y -> y.wreck(5));
        CHECK.refused(x, "new: nights", STATE, y -> y.nights(5, 0));
        CHECK.refused(x, "new: image", STATE, LineToWreck::image);
        CHECK.refused(x, "new: restore", STATE, LineToWreck::restore);
        CHECK.refused(x, "new: fire", -101, y -> y.fire(0, 0));
        CHECK.refused(x, "new: come", -101, y -> y.come(0));
        CHECK.refused(x, "new: said", -101, y -> y.said(0, 1));
    }

    private static void letters() {
        LineToWreck x = new LineToWreck();
        for (int code : new int[] {0, 127, -1, Integer.MIN_VALUE, Integer.MAX_VALUE}) {
            CHECK.refused(x, "letter(" + code + ")", OUTSIDE, y -> y.letter(code));
        }
        CHECK.due("letter(1)", x.letter(1), 1);
        CHECK.due("letter(126)", x.letter(126), 2);
        for (int i = 3; i <= 22; i++) {
            CHECK.due("letter " + i, x.letter('1'), i);
        }
        CHECK.refused(x, "letter 23", FULL, y -> y.letter('1'));
        CHECK.refused(x, "letter(0) on a full page", OUTSIDE, y -> y.letter(0));
        CHECK.due("blank() of 22", x.blank(), 22);
        CHECK.due("blank() again", x.blank(), 0);
        CHECK.due("count(11)", x.count(11), 0);
        CHECK.due("letter behind blank()", x.letter('4'), 1);
    }

    private static void fault(String text, int want) {
        CHECK.due("fault() of " + text, Check.page(new LineToWreck(), text).fault(), want);
    }

    private static void faults() {
        String whole = "40:3:262:1234567890";
        for (int length = 0; length <= whole.length(); length++) {
            fault(whole.substring(0, length), length);
        }
        for (int place = 0; place < whole.length(); place++) {
            fault(whole.substring(0, place) + "x", place);
            fault(whole.substring(0, place) + "x9:", place);
            boolean colon = place == 2 || place == 4 || place == 8;
            fault(whole.substring(0, place) + (colon ? "5" : ":"), place);
            fault(whole.substring(0, place) + "/", place);
            fault(whole.substring(0, place) + ";", place);
        }
        fault(whole + "1", 19);
        fault(whole + "x12", 19);
        fault("0", 0);
        fault("05:3:262:1", 0);
        fault("10:0:190:0", 10);
        fault("99:9:901:9", 10);
        fault("40:3:92", 6);
        fault("40:3:929:1", 6);
        fault("40:3:91", 7);
        fault("40:3:910:1", 10);
        fault("40:3:911", 7);
        fault("40:3:019", 8);
        fault("40:3:263", 7);
        fault("40:3:261", 7);
        fault("40:3:00", 7);
        fault("40:3:000", 7);
        fault("40:3:009", 7);
        fault("40:3:00:", 7);
        fault("40:3:00x", 7);
    }

    private static void nights() {
        for (String text : new String[] {"4", "40:3:262", "40:3:262:", "40:3:262:1x", "40:3:263:1",
                "40:3:262:12345678901", "04:3:262:1", "40:3:262:1:"}) {
            LineToWreck x = Check.page(new LineToWreck(), text);
            CHECK.refused(x, "night() of " + text, STATE, LineToWreck::night);
            CHECK.due("its page", x.count(11), text.length());
        }
        LineToWreck x = Check.page(new LineToWreck(), "40:3:262:1");
        CHECK.due("night() of one stage", x.night(), 1);
        CHECK.due("its page", x.count(11), 0);
        CHECK.due("nights read", x.count(12), 1);
        CHECK.due("stages", x.count(7), 1);
        CHECK.due("night() of no page", x.night(), STATE);
        Check.page(x, "99:9:901:9876543210");
        CHECK.due("night() of ten stages", x.night(), 10);
        CHECK.due("nights read", x.count(12), 2);
    }

    private static void nightEndsTheOneBefore() {
        LineToWreck x = Check.night("40:0:262:00000");
        x.rocket(40, 0);
        x.man(0, 10);
        x.man(4, 10);
        x.behind(0, 1, true);
        x.behind(0, 1, false);
        x.fire(0, 0);
        x.come(0);
        x.said(0, 1);
        x.wreck(7);
        x.hawser(9);
        x.order(0);
        x.image();
        x.behind(0, 1, true);
        x.breaks();
        Check.page(x, "41:1:262:123");
        CHECK.due("the second night()", x.night(), 3);
        int[] counts = {0, 0, 0, 0, 0, 0, 0, 3, 60, 0, 0, 0, 2, 1};
        for (int what = 0; what < counts.length; what++) {
            CHECK.due("second night: count(" + what + ")", x.count(what), counts[what]);
        }
        CHECK.due("second night: fire", x.fire(0, 0), -101);
        CHECK.due("second night: about", x.about(0, 0), -101);
        CHECK.due("second night: restore", x.restore(), STATE);
        CHECK.due("second night: man", x.man(0, 3), 0);
        CHECK.due("second night: man", x.man(1, 3), 1);
        CHECK.due("second night: over", x.about(0, 4), 0);
        CHECK.due("second night: over at", x.about(0, 5), -1);
        CHECK.due("second night: orders", x.orders(), 2);
        CHECK.due("second night: behind", x.behind(0, 1, true), 0);
        CHECK.due("second night: said", x.said(1, 0), 1);
        CHECK.due("second night: orders", x.orders(), 1);
    }

    private static void sea() {
        LineToWreck x = Check.night("47:3:163:9065");
        int[] first = {47, 3, 1, 6, 3};
        int[] tenths = {9, 0, 6, 5, -1, -1, -1, -1, -1, -1};
        for (int what = 0; what < 5; what++) {
            CHECK.due("sea(" + what + ")", x.sea(what), first[what]);
        }
        for (int what = 10; what < 20; what++) {
            CHECK.due("sea(" + what + ")", x.sea(what), tenths[what - 10]);
        }
        for (int what : new int[] {-1, 5, 9, 20, Integer.MIN_VALUE, Integer.MAX_VALUE}) {
            CHECK.refused(x, "sea(" + what + ")", OUTSIDE, y -> y.sea(what));
            CHECK.due("sea(" + what + ") without a night", new LineToWreck().sea(what), OUTSIDE);
        }
        Check.page(x, "11:0:910:1");
        x.night();
        CHECK.due("sea(0) of the later night", x.sea(0), 11);
        CHECK.due("sea(11) of the later night", x.sea(11), -1);
    }
}
