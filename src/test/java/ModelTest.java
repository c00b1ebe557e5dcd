import java.util.Random;

/** Long runs of calls, every answer held against the model's. */
public final class ModelTest {
    private static final Check CHECK = new Check();
    private static final int RUNS = 700;
    private static final int CALLS = 510;

    private final Random random;
    private final LineToWreck x = new LineToWreck();
    private final Model y = new Model();
    private final String run;
    private int calls;

    private ModelTest(int seed) {
        random = new Random(seed);
        run = "run " + seed + ": ";
    }

    public static void main(String[] args) {
        for (int seed = 1; seed <= RUNS; seed++) {
            new ModelTest(seed).go();
        }
        CHECK.end("ModelTest");
    }

    private void go() {
        if (random.nextInt(10) != 0) {
            writeNight();
        }
        while (calls < CALLS) {
            step();
        }
    }

    private void due(String call, long got, long want) {
        calls++;
        CHECK.due(run + call, got, want);
    }

    private void writeNight() {
        int against = random.nextInt(10);
        int none = random.nextInt(Math.min(9, 10 - against) + 1);
        int on = 10 - against - none;
        StringBuilder text = new StringBuilder();
        text.append(10 + random.nextInt(90)).append(':').append(random.nextInt(10)).append(':');
        text.append(against).append(none).append(on).append(':');
        int stages = 1 + random.nextInt(10);
        boolean calm = random.nextBoolean();
        for (int i = 0; i < stages; i++) {
            text.append(random.nextInt(calm ? 3 : 10));
        }
        if (random.nextInt(8) == 0) {
            text.setCharAt(random.nextInt(text.length()), (char) ('/' + random.nextInt(12)));
        }
        for (int i = 0; i < text.length(); i++) {
            int code = text.charAt(i);
            due("letter(" + code + ")", x.letter(code), y.letter(code));
        }
        due("fault()", x.fault(), y.fault());
        due("night()", x.night(), y.night());
        if (random.nextInt(3) != 0) {
            due("blank()", x.blank(), y.blank());
        }
    }

    /** Mostly from least to most, at times just beyond or far off. */
    private int near(int least, int most) {
        switch (random.nextInt(24)) {
            case 0: return least - 1;
            case 1: return most + 1;
            case 2: return random.nextInt();
            default: return least + random.nextInt(most - least + 1);
        }
    }

    private int range() {
        int far = y.sea(0);
        return random.nextInt(4) == 0 || far < 0 ? near(10, 120) : near(Math.max(10, far - 12), far + 20);
    }

    private void step() {
        int kind = random.nextInt(300);
        if (kind == 0) {
            writeNight();
        } else if (kind < 20) {
            rocket();
        } else if (kind < 45) {
            man();
        } else if (kind < 200) {
            ask(random.nextInt(16));
        } else {
            change(random.nextInt(16));
        }
    }

    private void rocket() {
        int range = range();
        int damp = near(0, random.nextBoolean() ? 2 : 9);
        due("rocket(" + range + ", " + damp + ")", x.rocket(range, damp), y.rocket(range, damp));
    }

    private void man() {
        int kind = near(0, 4);
        int weight = near(1, 30);
        due("man(" + kind + ", " + weight + ")", x.man(kind, weight), y.man(kind, weight));
    }

    private void ask(int which) {
        int a = near(0, 5);
        int part = near(0, 1);
        int seven = near(0, 6);
        int stage = near(0, 9);
        int what = near(0, 19);
        int stages = near(1, 4);
        int reach = near(0, random.nextBoolean() ? 12 : 50);
        int seed = random.nextInt() >>> random.nextInt(20);
        int three = near(0, 3);
        switch (which) {
            case 0: due("fault()", x.fault(), y.fault()); break;
            case 1: due("sea(" + what + ")", x.sea(what), y.sea(what)); break;
            case 2: case 3:
                due("hits(" + a + ", " + stage + ", " + part + ")", x.hits(a, stage, part), y.hits(a, stage, part));
                break;
            case 4: case 5:
                due("aim(" + stages + ", " + part + ")", x.aim(stages, part), y.aim(stages, part));
                break;
            case 6: case 7: due("which(" + stages + ")", x.which(stages), y.which(stages)); break;
            case 8: due("about(" + a + ", " + seven + ")", x.about(a, seven), y.about(a, seven)); break;
            case 9: due("as(" + a + ", " + seven + ")", x.as(a, seven), y.as(a, seven)); break;
            case 10: due("orders()", x.orders(), y.orders()); break;
            case 11: due("sure(" + a + ")", x.sure(a), y.sure(a)); break;
            case 12:
                due("stations(" + reach + ", " + part + ")", x.stations(reach, part), y.stations(reach, part));
                break;
            case 13: due("nights(" + seed + ", " + three + ")", x.nights(seed, three), y.nights(seed, three)); break;
            case 14: due("count(" + what + ")", x.count(what), y.count(what)); break;
            default: due("digest()", x.digest(), y.digest()); break;
        }
    }

    private void change(int which) {
        int a = near(0, 5);
        int b = near(0, 5);
        boolean is = random.nextInt(10) == 0;
        int gust = near(-1, 1);
        int code = near(1, 126);
        int v = near(0, 60);
        int minutes = near(1, random.nextInt(4) == 0 ? 50 : 4);
        int what = random.nextBoolean() ? near(0, 1) : near(10, 15);
        int place = near(0, 99);
        boolean seldom = random.nextInt(4) == 0;
        boolean last = seldom && random.nextInt(4) == 0;
        switch (last || which > 1 ? which : 7) {
            case 0: due("breaks()", x.breaks(), y.breaks()); break;
            case 1: due("blank()", x.blank(), y.blank()); break;
            case 2: due("letter(" + code + ")", x.letter(code), y.letter(code)); break;
            case 3:
                if (seldom || y.aim(1, 0) > 0) {
                    due("fire(" + a + ", " + gust + ")", x.fire(a, gust), y.fire(a, gust));
                }
                break;
            case 4:
                due("behind(" + a + ", " + b + ", " + is + ")", x.behind(a, b, is), y.behind(a, b, is));
                break;
            case 5: due("hawser(" + v + ")", x.hawser(v), y.hawser(v)); break;
            case 6: case 7: case 15: due("come(" + a + ")", x.come(a), y.come(a)); break;
            case 8:
                if (seldom) {
                    due("minutes(" + minutes + ")", x.minutes(minutes), y.minutes(minutes));
                }
                break;
            case 9: case 10: due("order(" + what + ")", x.order(what), y.order(what)); break;
            case 11: due("said(" + a + ", " + b + ")", x.said(a, b), y.said(a, b)); break;
            case 12: due("wreck(" + place + ")", x.wreck(place), y.wreck(place)); break;
            case 13:
                if (seldom) {
                    due("image()", x.image(), y.image());
                }
                break;
            case 14: due("restore()", x.restore(), y.restore()); break;
            default: break;
        }
    }
}
