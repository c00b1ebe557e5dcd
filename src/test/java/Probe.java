import java.util.ArrayList;
import java.util.List;

/** Asks an object all that can be asked, then does all that can be done with it: two that answer alike are alike. */
final class Probe {
    private final LineToWreck x;
    private final List<String> answers = new ArrayList<>();

    private Probe(LineToWreck x) {
        this.x = x;
    }

    /** In some 350 calls: with those that made the object, fewer than the 512 that are promised. */
    static List<String> all(LineToWreck x) {
        Probe probe = new Probe(x);
        probe.counts();
        probe.night();
        probe.rockets();
        probe.men();
        probe.coast();
        probe.goOn();
        probe.goBack();
        probe.nextNight();
        return probe.answers;
    }

    private void note(String call, long answer) {
        answers.add(call + " = " + answer);
    }

    private void counts() {
        for (int what = 0; what <= 13; what++) {
            note("count(" + what + ")", x.count(what));
        }
        note("digest()", x.digest());
    }

    private void night() {
        note("fault()", x.fault());
        for (int what = 0; what <= 19; what++) {
            note("sea(" + what + ")", x.sea(what));
        }
    }

    private void rockets() {
        for (int rocket = 0; rocket < 6; rocket++) {
            note("hits(" + rocket + ", 0, 0)", x.hits(rocket, 0, 0));
            note("hits(" + rocket + ", 3, 0)", x.hits(rocket, 3, 0));
        }
        for (int stages = 1; stages <= 4; stages++) {
            note("aim(" + stages + ", 0)", x.aim(stages, 0));
            note("which(" + stages + ")", x.which(stages));
        }
    }

    private void men() {
        for (int man = 0; man < 6; man++) {
            for (int what = 0; what <= 6; what++) {
                note("about(" + man + ", " + what + ")", x.about(man, what));
            }
            note("sure(" + man + ")", x.sure(man));
        }
        note("orders()", x.orders());
    }

    private void coast() {
        note("stations(0, 0)", x.stations(0, 0));
        note("stations(0, 1)", x.stations(0, 1));
        note("stations(20, 0)", x.stations(20, 0));
        for (int seed = 1; seed <= 3; seed++) {
            note("nights(" + seed + ", 1)", x.nights(seed, 1));
            note("nights(" + seed + ", 3)", x.nights(seed, 3));
        }
    }

    private void goOn() {
        note("letter('5')", x.letter('5'));
        note("order(0)", x.order(0));
        note("order(1)", x.order(1));
        note("order(10)", x.order(10));
        note("order(11)", x.order(11));
        note("said(2, 0)", x.said(2, 0));
        note("orders()", x.orders());
        note("wreck(99)", x.wreck(99));
        note("stations(0, 0)", x.stations(0, 0));
        note("minutes(1)", x.minutes(1));
        for (int i = 0; i < 6; i++) {
            note("fire(" + i + ", 0)", x.fire(i, 0));
            note("come(" + i + ")", x.come(i));
        }
        note("hawser(3)", x.hawser(3));
        note("breaks()", x.breaks());
        counts();
    }

    private void goBack() {
        note("restore()", x.restore());
        counts();
        for (int man = 0; man < 6; man++) {
            note("about(" + man + ", 5)", x.about(man, 5));
            note("sure(" + man + ")", x.sure(man));
            for (int other = 0; other < 6; other++) {
                note("behind(" + man + ", " + other + ", false)", x.behind(man, other, false));
            }
        }
        note("stations(0, 0)", x.stations(0, 0));
        note("stations(0, 1)", x.stations(0, 1));
        note("rocket(40, 0)", x.rocket(40, 0));
        note("man(0, 10)", x.man(0, 10));
        note("digest()", x.digest());
    }

    private void nextNight() {
        note("blank()", x.blank());
        for (char letter : "40:3:262:12".toCharArray()) {
            note("letter(" + letter + ")", x.letter(letter));
        }
        note("night()", x.night());
        note("restore()", x.restore());
        counts();
    }
}
