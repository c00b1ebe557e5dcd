/** Promises 1 to 6: a new object, THE PAGE and THE NIGHT. */
public final class NightTest {
    private static final Check CHECK = new Check();
    private static final String WHOLE = "40:3:262:1234567890";

    public static void main(String[] args) {
        newObjectHasNothing();
        newObjectAnswersWithoutNight();
        newObjectRefuses();
        objectOf512Calls();

        lettersAreCounted();
        letterLeastAndMost();
        letterOutside();
        letterFull();
        letterRefusalsInOrder();

        blankOfNothing();
        blankOfSome();
        blankOfAll();

        faultOfNothing();
        faultOfNoFault();
        faultOfFar();
        faultOfWind();
        faultOfColons();
        faultOfGustsOneByOne();
        faultOfGustsAboveTen();
        faultOfGustsNotTen();
        faultOfGustsOfTen();
        faultBehindTwoNoughts();
        faultOfTenths();
        faultOfTooManyStages();
        faultIsTheFirst();

        nightIsRead();
        nightOfLeastAndMostStages();
        nightOfLeastAndMostDigits();
        nightEmptiesThePage();
        nightRefused();
        nightEndsRockets();
        nightEndsMen();
        nightEndsWhatWasSaid();
        nightEndsWrecks();
        nightBeginsAnew();
        nightRefusedEndsNothing();

        seaTells();
        seaOfNoSuchStage();
        seaOutside();
        seaWithoutNight();
        seaRefusalsInOrder();
        CHECK.end("NightTest");
    }

    // ---- promise 1

    private static void newObjectHasNothing() {
        CHECK.promise(1, "No NIGHT.");
        LineToWreck x = new LineToWreck();
        for (int what = 0; what <= 13; what++) {
            CHECK.due("count(" + what + ")", x.count(what), what == 8 ? 60 : 0);
        }
    }

    private static void newObjectAnswersWithoutNight() {
        CHECK.promise(1, "No NIGHT.");
        LineToWreck x = new LineToWreck();
        CHECK.due("fault()", x.fault(), 0);
        CHECK.due("blank()", x.blank(), 0);
        CHECK.due("orders()", x.orders(), 1);
        CHECK.due("stations(5, 0)", x.stations(5, 0), 0);
        CHECK.due("stations(5, 1)", x.stations(5, 1), Check.NONE);
        CHECK.due("letter('1')", x.letter('1'), 1);
    }

    private static void newObjectRefuses() {
        CHECK.promise(1, "No NIGHT.");
        CHECK.refused("fire(0, 0)", LineToWreck::new, Check.UNKNOWN, x -> x.fire(0, 0));
        CHECK.refused("hits(0, 0, 0)", LineToWreck::new, Check.UNKNOWN, x -> x.hits(0, 0, 0));
        CHECK.refused("about(0, 0)", LineToWreck::new, Check.UNKNOWN, x -> x.about(0, 0));
        CHECK.refused("as(0, 0)", LineToWreck::new, Check.UNKNOWN, x -> x.as(0, 0));
        CHECK.refused("behind(0, 1, true)", LineToWreck::new, Check.UNKNOWN, x -> x.behind(0, 1, true));
        CHECK.refused("come(0)", LineToWreck::new, Check.UNKNOWN, x -> x.come(0));
        CHECK.refused("said(0, 1)", LineToWreck::new, Check.UNKNOWN, x -> x.said(0, 1));
        CHECK.refused("sure(0)", LineToWreck::new, Check.UNKNOWN, x -> x.sure(0));
        CHECK.refused("night()", LineToWreck::new, Check.STATE, LineToWreck::night);
    }

    private static void objectOf512Calls() {
        CHECK.promise(1, "An object is used for at most 512 calls after it has been made; what later calls answer is free.");
        // eleven calls; a rocket is the twelfth
        LineToWreck x = Check.night("40:3:262:1");
        x.rocket(44, 0);
        for (int call = 13; call < 512; call++) {
            CHECK.due("call " + call + ": hits(0, 0, 0)", x.hits(0, 0, 0), 4);
        }
        CHECK.due("call 512: fire(0, -1)", x.fire(0, -1), 41);
    }

    // ---- promise 2

    private static void lettersAreCounted() {
        CHECK.promise(2, "A letter comes behind THE PAGE, by its code: how many THE PAGE has.");
        LineToWreck x = new LineToWreck();
        for (int i = 1; i <= 22; i++) {
            CHECK.due("letter " + i, x.letter(WHOLE.charAt((i - 1) % 19)), i);
        }
        CHECK.due("fault(), as each letter stands behind the one before", x.fault(), 19);
    }

    private static void letterLeastAndMost() {
        CHECK.promise(2, "OUTSIDE: code (1 to 126)");
        LineToWreck x = new LineToWreck();
        CHECK.due("letter(1)", x.letter(1), 1);
        CHECK.due("letter(126)", x.letter(126), 2);
        LineToWreck y = new LineToWreck();
        y.letter(126);
        y.letter(1);
        CHECK.due("whether another order of letters is another digest", x.digest() != y.digest() ? 1 : 0, 1);
    }

    private static void letterOutside() {
        CHECK.promise(2, "OUTSIDE: code (1 to 126)");
        for (int code : new int[] {0, 127, -1, 128, 256 + '4', Check.LEAST, Check.MOST}) {
            CHECK.refused("letter(" + code + ")", LineToWreck::new, Check.OUTSIDE, x -> x.letter(code));
            CHECK.refused("letter(" + code + ")", Check::onTheWay, Check.OUTSIDE, x -> x.letter(code));
        }
    }

    private static LineToWreck fullPage() {
        return Check.page(Check.night(WHOLE), "40:3:262:1234567890123");
    }

    private static void letterFull() {
        CHECK.promise(2, "FULL: above 22.");
        CHECK.due("letters of the full page", fullPage().count(11), 22);
        CHECK.refused("letter 23", NightTest::fullPage, Check.FULL, x -> x.letter('1'));
        LineToWreck x = fullPage();
        x.letter('1');
        x.blank();
        CHECK.due("letter behind blank()", x.letter('4'), 1);
    }

    private static void letterRefusalsInOrder() {
        CHECK.promise(2, "OUTSIDE: code (1 to 126); FULL: above 22.");
        CHECK.refused("letter(0) on a full page", NightTest::fullPage, Check.OUTSIDE, x -> x.letter(0));
        CHECK.refused("letter(127) on a full page", NightTest::fullPage, Check.OUTSIDE, x -> x.letter(127));
    }

    // ---- promise 3

    private static void blankOfNothing() {
        CHECK.promise(3, "THE PAGE is empty: how many letters it had.");
        CHECK.due("blank() of a new object", new LineToWreck().blank(), 0);
        LineToWreck x = Check.night(WHOLE);
        CHECK.due("blank() behind night()", x.blank(), 0);
    }

    private static void blankOfSome() {
        CHECK.promise(3, "THE PAGE is empty: how many letters it had.");
        LineToWreck x = Check.page(new LineToWreck(), "x");
        CHECK.due("blank() of one letter", x.blank(), 1);
        CHECK.due("blank() again", x.blank(), 0);
        CHECK.due("count(11)", x.count(11), 0);
        CHECK.due("fault() of the empty page", x.fault(), 0);
        Check.page(x, WHOLE);
        CHECK.due("fault(), as nothing of the old page is left", x.fault(), 19);
    }

    private static void blankOfAll() {
        CHECK.promise(3, "THE PAGE is empty: how many letters it had.");
        LineToWreck x = fullPage();
        CHECK.due("blank() of 22", x.blank(), 22);
        CHECK.due("count(11)", x.count(11), 0);
        CHECK.due("the night stays: sea(0)", x.sea(0), 40);
    }

    // ---- promise 4

    private static void fault(String text, int want) {
        CHECK.due("fault() of \"" + text + "\"", Check.page(new LineToWreck(), text).fault(), want);
    }

    private static void faultOfNothing() {
        CHECK.promise(4, "how many letters it has, if there is none");
        fault("", 0);
    }

    private static void faultOfNoFault() {
        CHECK.promise(4, "how many letters it has, if there is none");
        for (int length = 1; length <= WHOLE.length(); length++) {
            fault(WHOLE.substring(0, length), length);
        }
    }

    private static void faultOfFar() {
        CHECK.promise(4, "two digits FAR (10 to 99)");
        fault("0", 0);
        fault("09:3:262:1", 0);
        fault("10:3:262:1", 10);
        fault("99:3:262:1", 10);
        fault("/0", 0);
        fault(":0", 0);
        fault("1/", 1);
        fault("1:", 1);
        fault("100:3:262:1", 2);
    }

    private static void faultOfWind() {
        CHECK.promise(4, "and a digit WIND (0 to 9)");
        fault("40:0:262:1", 10);
        fault("40:9:262:1", 10);
        fault("40:/:262:1", 3);
        fault("40:::262:1", 3);
        fault("40:10:262:1", 4);
    }

    private static void faultOfColons() {
        CHECK.promise(4, "The place (from 0) of the first letter of THE PAGE that no NIGHT has there");
        for (int place : new int[] {2, 4, 8}) {
            for (char letter : "09;/ ".toCharArray()) {
                fault(WHOLE.substring(0, place) + letter, place);
                fault(WHOLE.substring(0, place) + letter + WHOLE.substring(place + 1), place);
            }
        }
        for (int place = 0; place < WHOLE.length(); place++) {
            if (place != 2 && place != 4 && place != 8) {
                fault(WHOLE.substring(0, place) + ":", place);
                fault(WHOLE.substring(0, place) + "/", place);
            }
        }
    }

    private static void faultOfGustsOneByOne() {
        CHECK.promise(4, "and three digits GUSTS (TENTHS: against, none, on; 10 together)");
        fault("40:3:0", 6);
        fault("40:3:9", 6);
        fault("40:3:/", 5);
        fault("40:3::", 5);
        fault("40:3:2/", 6);
        fault("40:3:2:", 6);
        fault("40:3:26/", 7);
        fault("40:3:26:", 7);
    }

    private static void faultOfGustsAboveTen() {
        CHECK.promise(4, "the second, third digit of GUSTS, too, by which they are above 10");
        fault("40:3:91", 7);
        fault("40:3:92", 6);
        fault("40:3:29", 6);
        fault("40:3:99", 6);
        fault("40:3:929:1", 6);
        fault("40:3:911", 7);
        fault("40:3:263", 7);
        fault("40:3:019", 8);
        fault("40:3:029", 7);
    }

    private static void faultOfGustsNotTen() {
        CHECK.promise(4, "or at last not 10");
        fault("40:3:261", 7);
        fault("40:3:260", 7);
        fault("40:3:900", 7);
        fault("40:3:018", 7);
        fault("40:3:108:1", 7);
    }

    private static void faultOfGustsOfTen() {
        CHECK.promise(4, "and three digits GUSTS (TENTHS: against, none, on; 10 together)");
        for (String gusts : new String[] {"190", "109", "019", "091", "901", "910", "550", "055", "505", "334"}) {
            fault("40:3:" + gusts, 8);
        }
    }

    private static void faultBehindTwoNoughts() {
        CHECK.promise(4, "behind 0 and 0 the third digit, whatever it is");
        fault("40:3:00", 7);
        for (char digit = '0'; digit <= '9'; digit++) {
            fault("40:3:00" + digit, 7);
            fault("40:3:00" + digit + ":1", 7);
        }
        fault("40:3:00:", 7);
    }

    private static void faultOfTenths() {
        CHECK.promise(4, "for each STAGE, one behind the other, the TENTHS (0 to 9) by which SHE BREAKS in the end of it.");
        fault("40:3:262:0", 10);
        fault("40:3:262:9", 10);
        for (int place = 9; place < 19; place++) {
            fault(WHOLE.substring(0, place) + "0", place + 1);
            fault(WHOLE.substring(0, place) + "9", place + 1);
            fault(WHOLE.substring(0, place) + "/", place);
            fault(WHOLE.substring(0, place) + ":", place);
        }
    }

    private static void faultOfTooManyStages() {
        CHECK.promise(4, "and one to ten digits");
        fault(WHOLE, 19);
        fault(WHOLE + "1", 19);
        fault(WHOLE + ":", 19);
        fault(WHOLE + "123", 19);
    }

    private static void faultIsTheFirst() {
        CHECK.promise(4, "of the first letter of THE PAGE that no NIGHT has there, behind those ahead of it");
        fault("x40:3:262:1", 0);
        fault("4x:3:99", 1);
        fault("40:x:99", 3);
        fault("40:3:99x", 6);
        fault("40:3:26x9", 7);
        fault("40:3:262:1x2y", 10);
        LineToWreck x = Check.page(new LineToWreck(), "40:3:262:1x");
        CHECK.due("fault()", x.fault(), 10);
        CHECK.due("fault() again, as it changes nothing", x.fault(), 10);
        CHECK.due("count(11)", x.count(11), 11);
    }

    // ---- promise 5

    private static void nightIsRead() {
        CHECK.promise(5, "THE PAGE is read as THE NIGHT");
        LineToWreck x = Check.page(new LineToWreck(), "47:3:163:9065");
        CHECK.due("night()", x.night(), 4);
        int[] first = {47, 3, 1, 6, 3};
        int[] tenths = {9, 0, 6, 5};
        for (int what = 0; what < 5; what++) {
            CHECK.due("sea(" + what + ")", x.sea(what), first[what]);
        }
        for (int stage = 0; stage < 4; stage++) {
            CHECK.due("sea(1" + stage + ")", x.sea(10 + stage), tenths[stage]);
        }
        CHECK.due("count(12)", x.count(12), 1);
    }

    private static void nightOfLeastAndMostStages() {
        CHECK.promise(5, "how many STAGES");
        for (int stages = 1; stages <= 10; stages++) {
            LineToWreck x = Check.page(new LineToWreck(), WHOLE.substring(0, 9 + stages));
            CHECK.due("night() of " + stages + " stages", x.night(), stages);
            CHECK.due("count(7)", x.count(7), stages);
        }
    }

    private static void nightOfLeastAndMostDigits() {
        CHECK.promise(5, "A NIGHT is a text: two digits FAR (10 to 99)");
        LineToWreck least = Check.night("10:0:091:0");
        CHECK.due("sea(0), the least", least.sea(0), 10);
        CHECK.due("sea(1), the least", least.sea(1), 0);
        CHECK.due("sea(2), the least", least.sea(2), 0);
        CHECK.due("sea(10), the least", least.sea(10), 0);
        LineToWreck most = Check.night("99:9:910:9");
        CHECK.due("sea(0), the most", most.sea(0), 99);
        CHECK.due("sea(1), the most", most.sea(1), 9);
        CHECK.due("sea(2), the most", most.sea(2), 9);
        CHECK.due("sea(10), the most", most.sea(10), 9);
    }

    private static void nightEmptiesThePage() {
        CHECK.promise(5, "THE PAGE is empty then.");
        LineToWreck x = Check.night(WHOLE);
        CHECK.due("count(11)", x.count(11), 0);
        CHECK.due("fault()", x.fault(), 0);
        CHECK.due("letter('4')", x.letter('4'), 1);
    }

    private static void nightRefused() {
        CHECK.promise(5, "STATE: it is none.");
        for (String text : new String[] {"", "4", "40:3:262", "40:3:262:", "40:3:262:1x", "40:3:263:1", "40:3:261:1",
                "40:3:000:1", "40:3:262:12345678901", "09:3:262:1", "40:3:262:1:", "40 3:262:1"}) {
            CHECK.refused("night() of \"" + text + "\"", () -> Check.page(new LineToWreck(), text), Check.STATE,
                    LineToWreck::night);
        }
        LineToWreck x = Check.night(WHOLE);
        CHECK.due("night() again, of no page", x.night(), Check.STATE);
    }

    private static LineToWreck nextNight() {
        LineToWreck x = Check.broken();
        x.blank();
        Check.page(x, "41:1:361:123");
        x.night();
        return x;
    }

    private static void nightEndsRockets() {
        CHECK.promise(5, "another one is gone, with ROCKETS");
        LineToWreck x = nextNight();
        CHECK.due("sea(0)", x.sea(0), 41);
        CHECK.due("sea(2)", x.sea(2), 3);
        CHECK.due("sea(13), which the one before had", x.sea(13), Check.NONE);
        CHECK.due("count(0)", x.count(0), 0);
        CHECK.due("count(1)", x.count(1), 0);
        CHECK.due("fire(0, 0)", x.fire(0, 0), Check.UNKNOWN);
        CHECK.due("rocket(45, 0)", x.rocket(45, 0), 0);
        CHECK.due("fire(0, 0)", x.fire(0, 0), 45);
    }

    private static void nightEndsMen() {
        CHECK.promise(5, "another one is gone, with ROCKETS, MEN");
        LineToWreck x = nextNight();
        CHECK.due("count(2)", x.count(2), 0);
        CHECK.due("count(3)", x.count(3), 0);
        CHECK.due("about(0, 0)", x.about(0, 0), Check.UNKNOWN);
        CHECK.due("orders()", x.orders(), 1);
        CHECK.due("man(0, 3)", x.man(0, 3), 0);
        CHECK.due("man(1, 3)", x.man(1, 3), 1);
        CHECK.due("about(1, 4), whose number was over before", x.about(1, 4), 0);
        CHECK.due("about(1, 5)", x.about(1, 5), Check.NONE);
        CHECK.due("orders(), as none comes BEHIND one of old", x.orders(), 2);
        CHECK.due("behind(0, 1, true), which was so before", x.behind(0, 1, true), 0);
    }

    private static void nightEndsWhatWasSaid() {
        CHECK.promise(5, "another one is gone, with ROCKETS, MEN, what was SAID");
        LineToWreck x = nextNight();
        CHECK.due("count(9)", x.count(9), 0);
        x.man(0, 3);
        x.man(0, 3);
        x.man(0, 3);
        CHECK.due("orders()", x.orders(), 6);
        CHECK.due("said(0, 1)", x.said(0, 1), 1);
        CHECK.due("orders()", x.orders(), 3);
    }

    private static void nightEndsWrecks() {
        CHECK.promise(5, "another one is gone, with ROCKETS, MEN, what was SAID, WRECKS");
        LineToWreck x = nextNight();
        CHECK.due("count(10)", x.count(10), 0);
        CHECK.due("stations(0, 0)", x.stations(0, 0), 0);
        CHECK.due("stations(0, 1)", x.stations(0, 1), Check.NONE);
        CHECK.due("wreck(50)", x.wreck(50), 1);
        CHECK.due("stations(0, 0)", x.stations(0, 0), 1);
        CHECK.due("stations(0, 1)", x.stations(0, 1), 50);
    }

    private static void nightBeginsAnew() {
        CHECK.promise(5, "it is MINUTE 0, no LINE, THE HAWSER 60");
        LineToWreck x = Check.broken();
        CHECK.due("MINUTE before", x.count(4), 7);
        x = nextNight();
        CHECK.due("count(4)", x.count(4), 0);
        CHECK.due("count(5)", x.count(5), 0);
        CHECK.due("count(6), as this one has not BROKEN", x.count(6), 0);
        CHECK.due("count(8)", x.count(8), 60);
        CHECK.due("count(12)", x.count(12), 2);
        CHECK.due("count(13), which a NIGHT does not end", x.count(13), 1);
    }

    private static LineToWreck withWrongPage() {
        LineToWreck x = Check.onTheWay();
        x.blank();
        return Check.page(x, "41:1:361:");
    }

    private static void nightRefusedEndsNothing() {
        CHECK.promise(5, "STATE: it is none.");
        CHECK.refused("night() of a page that ends too early", NightTest::withWrongPage, Check.STATE,
                LineToWreck::night);
        CHECK.refused("night() of a wrong page", Check::onTheWay, Check.STATE, LineToWreck::night);
    }

    // ---- promise 6

    private static void seaTells() {
        CHECK.promise(6, "What = 0 FAR, 1 WIND, 2 to 4 GUSTS, 10 to 19 TENTHS of STAGES");
        LineToWreck x = Check.night("58:7:136:9876543210");
        int[] first = {58, 7, 1, 3, 6};
        for (int what = 0; what <= 4; what++) {
            CHECK.due("sea(" + what + ")", x.sea(what), first[what]);
        }
        for (int what = 10; what <= 19; what++) {
            CHECK.due("sea(" + what + ")", x.sea(what), 19 - what);
        }
        x.breaks();
        CHECK.due("sea(19) when she has broken", x.sea(19), 0);
    }

    private static void seaOfNoSuchStage() {
        CHECK.promise(6, "10 to 19 TENTHS of STAGES (NONE: there is no such STAGE)");
        LineToWreck one = Check.night("40:3:262:7");
        CHECK.due("sea(10) of one stage", one.sea(10), 7);
        CHECK.due("sea(11) of one stage", one.sea(11), Check.NONE);
        CHECK.due("sea(19) of one stage", one.sea(19), Check.NONE);
        LineToWreck nine = Check.night("40:3:262:123456789");
        CHECK.due("sea(18) of nine stages", nine.sea(18), 9);
        CHECK.due("sea(19) of nine stages", nine.sea(19), Check.NONE);
    }

    private static void seaOutside() {
        CHECK.promise(6, "OUTSIDE");
        for (int what : new int[] {-1, 5, 9, 20, Check.LEAST, Check.MOST}) {
            CHECK.refused("sea(" + what + ")", Check::onTheWay, Check.OUTSIDE, x -> x.sea(what));
        }
    }

    private static void seaWithoutNight() {
        CHECK.promise(6, "STATE: no NIGHT.");
        for (int what : new int[] {0, 4, 10, 19}) {
            CHECK.refused("sea(" + what + ")", LineToWreck::new, Check.STATE, x -> x.sea(what));
        }
    }

    private static void seaRefusalsInOrder() {
        CHECK.promise(6, "OUTSIDE; STATE: no NIGHT.");
        for (int what : new int[] {-1, 5, 9, 20}) {
            CHECK.refused("sea(" + what + ") without a night", LineToWreck::new, Check.OUTSIDE, x -> x.sea(what));
        }
    }
}
