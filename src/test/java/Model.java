import java.math.BigInteger;
import java.util.ArrayList;
import java.util.List;

/** The document said once more, by lists, fractions and every order tried: slow, and unlike the class in its ways. */
final class Model {
    static final int NONE = -1, UNKNOWN = -101, OUTSIDE = -102, STATE = -103, FULL = -104;

    private static final class Man {
        int kind;
        int weight;
        final List<Man> behind = new ArrayList<>();
    }

    private static final class Rocket {
        int range;
        int damp;
    }

    private static final class Course {
        int minute;
        boolean line;
        boolean broken;
        int hawser = 60;
        final List<Rocket> fired = new ArrayList<>();
        final List<Man> over = new ArrayList<>();
        final List<Integer> overMinutes = new ArrayList<>();
        final List<Man[]> said = new ArrayList<>();
        final List<Integer> wrecks = new ArrayList<>();

        Course copy() {
            Course c = new Course();
            c.minute = minute;
            c.line = line;
            c.broken = broken;
            c.hawser = hawser;
            c.fired.addAll(fired);
            c.over.addAll(over);
            c.overMinutes.addAll(overMinutes);
            c.said.addAll(said);
            c.wrecks.addAll(wrecks);
            return c;
        }
    }

    private static final class Fraction {
        final BigInteger above;
        final BigInteger below;

        Fraction(BigInteger above, BigInteger below) {
            BigInteger g = above.gcd(below);
            this.above = above.divide(g);
            this.below = below.divide(g);
        }

        static Fraction of(long above, long below) {
            return new Fraction(BigInteger.valueOf(above), BigInteger.valueOf(below));
        }

        Fraction plus(Fraction o) {
            return new Fraction(above.multiply(o.below).add(o.above.multiply(below)), below.multiply(o.below));
        }

        Fraction times(Fraction o) {
            return new Fraction(above.multiply(o.above), below.multiply(o.below));
        }

        boolean isMoreThan(Fraction o) {
            return above.multiply(o.below).compareTo(o.above.multiply(below)) > 0;
        }

        long part(int part) {
            return part == 0 ? above.longValueExact() : below.longValueExact();
        }
    }

    private String page = "";
    private String text = "";
    private List<Rocket> rockets = new ArrayList<>();
    private List<Man> men = new ArrayList<>();
    private Course now = new Course();
    private Course kept;
    private int nights;
    private int ordersDone;

    int letter(int code) {
        if (code < 1 || code > 126) {
            return OUTSIDE;
        }
        if (page.length() == 22) {
            return FULL;
        }
        page += (char) code;
        return page.length();
    }

    int blank() {
        int had = page.length();
        page = "";
        return had;
    }

    int fault() {
        String[] shapes = {"[1-9]", "[0-9]", ":", "[0-9]", ":", "[0-9]", "[0-9]", "[0-9]", ":"};
        for (int i = 0; i < page.length(); i++) {
            String shape = i < 9 ? shapes[i] : i < 19 ? "[0-9]" : "none";
            if (!page.substring(i, i + 1).matches(shape)) {
                return i;
            }
            if (i == 6 && page.charAt(5) - '0' + page.charAt(6) - '0' > 10) {
                return i;
            }
            if (i == 7 && page.charAt(5) + page.charAt(6) + page.charAt(7) - 3 * '0' != 10) {
                return i;
            }
        }
        return page.length();
    }

    int night() {
        if (page.length() < 10 || fault() < page.length()) {
            return STATE;
        }
        text = page;
        page = "";
        rockets = new ArrayList<>();
        men = new ArrayList<>();
        now = new Course();
        kept = null;
        nights++;
        return stages();
    }

    private boolean none() {
        return nights == 0;
    }

    private boolean lost() {
        return none() || now.broken;
    }

    private int stages() {
        return none() ? 0 : text.length() - 9;
    }

    private int digit(int place) {
        return text.charAt(place) - '0';
    }

    private int far() {
        return none() ? 0 : Integer.parseInt(text.substring(0, 2));
    }

    int sea(int what) {
        if (!(what >= 0 && what <= 4 || what >= 10 && what <= 19)) {
            return OUTSIDE;
        }
        if (none()) {
            return STATE;
        }
        if (what == 0) {
            return far();
        }
        if (what == 1) {
            return digit(3);
        }
        if (what <= 4) {
            return digit(what + 3);
        }
        return what - 10 < stages() ? digit(what - 1) : NONE;
    }

    int rocket(int range, int damp) {
        if (range < 10 || range > 120 || damp < 0 || damp > 9) {
            return OUTSIDE;
        }
        if (none()) {
            return STATE;
        }
        if (rockets.size() == 6) {
            return FULL;
        }
        Rocket r = new Rocket();
        r.range = range;
        r.damp = damp;
        rockets.add(r);
        return rockets.size() - 1;
    }

    private int falls(Rocket r, int stage, int gust) {
        return r.range - r.damp * stage + gust * digit(3);
    }

    private boolean right(int place) {
        return far() <= place && place - far() <= 5;
    }

    int fire(int rocket, int gust) {
        if (rocket < 0 || rocket >= rockets.size()) {
            return UNKNOWN;
        }
        if (gust < -1 || gust > 1) {
            return OUTSIDE;
        }
        Rocket r = rockets.get(rocket);
        if (now.fired.contains(r) || now.broken) {
            return STATE;
        }
        now.fired.add(r);
        int place = falls(r, now.minute / 5, gust);
        now.line = now.line || right(place);
        return place;
    }

    private Fraction hit(Rocket r, int stage) {
        int tenths = 0;
        for (int gust = -1; gust <= 1; gust++) {
            tenths += right(falls(r, stage, gust)) ? digit(6 + gust) : 0;
        }
        return Fraction.of(tenths, 10);
    }

    long hits(int rocket, int stage, int part) {
        if (rocket < 0 || rocket >= rockets.size()) {
            return UNKNOWN;
        }
        if (stage < 0 || stage > 9 || part < 0 || part > 1) {
            return OUTSIDE;
        }
        return hit(rockets.get(rocket), stage).part(part);
    }

    private Fraction holds(int stage) {
        return Fraction.of(stage == stages() - 1 ? 0 : 10 - digit(9 + stage), 10);
    }

    private Fraction shot(List<Rocket> left, Rocket r, int stage, int more) {
        Fraction now = r == null ? Fraction.of(0, 1) : hit(r, stage);
        if (more == 0) {
            return now;
        }
        List<Rocket> rest = new ArrayList<>(left);
        rest.remove(r);
        Fraction miss = new Fraction(now.below.subtract(now.above), now.below);
        return now.plus(miss.times(holds(stage)).times(best(rest, stage + 1, more)));
    }

    private Fraction best(List<Rocket> left, int stage, int stages) {
        if (stage >= stages() || stages == 0) {
            return Fraction.of(0, 1);
        }
        Fraction best = shot(left, null, stage, stages - 1);
        for (Rocket r : left) {
            Fraction f = shot(left, r, stage, stages - 1);
            best = f.isMoreThan(best) ? f : best;
        }
        return best;
    }

    private List<Rocket> left() {
        List<Rocket> left = new ArrayList<>(rockets);
        left.removeAll(now.fired);
        return left;
    }

    long aim(int stages, int part) {
        if (stages < 1 || stages > 4 || part < 0 || part > 1) {
            return OUTSIDE;
        }
        if (lost() || now.line) {
            return STATE;
        }
        return best(left(), now.minute / 5, stages).part(part);
    }

    int which(int stages) {
        if (stages < 1 || stages > 4) {
            return OUTSIDE;
        }
        if (lost() || now.line) {
            return STATE;
        }
        Fraction best = shot(left(), null, now.minute / 5, stages - 1);
        int which = NONE;
        for (Rocket r : left()) {
            Fraction f = shot(left(), r, now.minute / 5, stages - 1);
            if (f.isMoreThan(best)) {
                best = f;
                which = rockets.indexOf(r);
            }
        }
        return which;
    }

    int man(int kind, int weight) {
        if (kind < 0 || kind > 4 || weight < 1 || weight > 30) {
            return OUTSIDE;
        }
        if (none()) {
            return STATE;
        }
        if (men.size() == 6) {
            return FULL;
        }
        Man m = new Man();
        m.kind = kind;
        m.weight = weight;
        men.add(m);
        return men.size() - 1;
    }

    private boolean unknown(int man) {
        return man < 0 || man >= men.size();
    }

    private boolean sags(Man m) {
        return m.weight * far() / 50 > now.hawser;
    }

    private int takes(Man m) {
        int takes = 2 + m.weight / 5;
        if (m.kind == 1) {
            takes = takes / 2 + takes % 2;
        }
        return takes + (m.kind == 3 ? 3 : 0) + (sags(m) ? 2 : 0);
    }

    private boolean allAhead(Man m, List<Man> over) {
        for (Man other : men) {
            boolean must = m.behind.contains(other) || m.kind == 4 && other.kind != 4;
            if (must && !over.contains(other)) {
                return false;
            }
        }
        return true;
    }

    private boolean may(Man m) {
        return now.line && !now.broken && !now.over.contains(m) && allAhead(m, now.over)
                && now.minute + takes(m) <= 5 * stages() - 1;
    }

    int about(int man, int what) {
        if (unknown(man)) {
            return UNKNOWN;
        }
        Man m = men.get(man);
        int when = now.over.indexOf(m);
        int[] all = {m.kind, m.weight, takes(m), sags(m) ? 1 : 0, when < 0 ? 0 : 1,
                when < 0 ? NONE : now.overMinutes.get(when), may(m) ? 1 : 0};
        return what < 0 || what > 6 ? OUTSIDE : all[what];
    }

    int as(int man, int kind) {
        if (unknown(man)) {
            return UNKNOWN;
        }
        if (kind < 0 || kind > 4) {
            return OUTSIDE;
        }
        String[] kinds = {"0", "01", "02", "03", "024"};
        return kinds[men.get(man).kind].indexOf('0' + kind) >= 0 ? man : NONE;
    }

    int behind(int a, int b, boolean is) {
        if (unknown(a) || unknown(b) || a == b) {
            return UNKNOWN;
        }
        Man other = men.get(b);
        boolean was = men.get(a).behind.remove(other);
        if (is) {
            men.get(a).behind.add(other);
        }
        return was ? 1 : 0;
    }

    int hawser(int v) {
        if (v < 0 || v > 60) {
            return OUTSIDE;
        }
        if (none()) {
            return STATE;
        }
        int was = now.hawser;
        now.hawser = v;
        return was;
    }

    int come(int man) {
        if (unknown(man)) {
            return UNKNOWN;
        }
        Man m = men.get(man);
        if (!may(m)) {
            return STATE;
        }
        now.minute += takes(m);
        now.over.add(m);
        now.overMinutes.add(now.minute);
        return now.minute;
    }

    int minutes(int minutes) {
        if (minutes < 1 || minutes > 50) {
            return OUTSIDE;
        }
        if (lost() || now.minute + minutes > 5 * stages() - 1) {
            return STATE;
        }
        now.minute += minutes;
        return now.minute;
    }

    int breaks() {
        if (lost()) {
            return STATE;
        }
        now.broken = true;
        return men.size() - now.over.size();
    }

    private Fraction mean(List<Man> order) {
        Fraction mean = Fraction.of(0, 1);
        int minute = now.minute;
        List<Man> over = new ArrayList<>(now.over);
        for (Man m : order) {
            if (!allAhead(m, over)) {
                return null;
            }
            over.add(m);
            minute += takes(m);
            Fraction is = Fraction.of(1, 1);
            for (int stage = now.minute / 5; stage < stages(); stage++) {
                is = 5 * stage + 5 <= minute ? is.times(holds(stage)) : is;
            }
            mean = mean.plus(is);
        }
        return mean;
    }

    private static void permute(List<Man> of, List<Man> begun, List<List<Man>> all) {
        if (begun.size() == of.size()) {
            all.add(new ArrayList<>(begun));
        }
        for (Man m : of) {
            if (!begun.contains(m)) {
                begun.add(m);
                permute(of, begun, all);
                begun.remove(begun.size() - 1);
            }
        }
    }

    long order(int what) {
        if (!(what == 0 || what == 1 || what >= 10 && what <= 15)) {
            return OUTSIDE;
        }
        if (lost() || ordersDone == 30) {
            return STATE;
        }
        ordersDone++;
        List<Man> left = new ArrayList<>(men);
        left.removeAll(now.over);
        List<List<Man>> all = new ArrayList<>();
        permute(left, new ArrayList<>(), all);
        List<Man> best = null;
        Fraction most = null;
        for (List<Man> order : all) {
            Fraction mean = mean(order);
            if (mean != null && (most == null || mean.isMoreThan(most))) {
                most = mean;
                best = order;
            }
        }
        if (what >= 10) {
            return best == null || what - 10 >= best.size() ? NONE : men.indexOf(best.get(what - 10));
        }
        return most == null ? what == 0 ? NONE : 1 : most.part(what);
    }

    int said(int a, int b) {
        if (unknown(a) || unknown(b) || a == b) {
            return UNKNOWN;
        }
        if (now.said.size() == 15) {
            return FULL;
        }
        now.said.add(new Man[] {men.get(a), men.get(b)});
        return now.said.size();
    }

    private List<List<Man>> possible() {
        List<List<Man>> all = new ArrayList<>();
        permute(men, new ArrayList<>(), all);
        List<List<Man>> possible = new ArrayList<>();
        for (List<Man> order : all) {
            boolean is = true;
            for (int i = 0; i < order.size(); i++) {
                is &= allAhead(order.get(i), order.subList(0, i));
            }
            for (Man[] two : now.said) {
                is &= order.indexOf(two[0]) < order.indexOf(two[1]);
            }
            if (is) {
                possible.add(order);
            }
        }
        return possible;
    }

    int orders() {
        return possible().size();
    }

    int sure(int man) {
        if (unknown(man)) {
            return UNKNOWN;
        }
        int sure = NONE;
        for (List<Man> order : possible()) {
            int place = order.indexOf(men.get(man));
            if (sure != NONE && place != sure) {
                return NONE;
            }
            sure = place;
        }
        return sure;
    }

    int wreck(int place) {
        if (place < 0 || place > 99) {
            return OUTSIDE;
        }
        if (none()) {
            return STATE;
        }
        if (now.wrecks.size() == 8) {
            return FULL;
        }
        now.wrecks.add(place);
        return now.wrecks.size();
    }

    /** By trying every place for the station that serves the least wreck. */
    private static int few(List<Integer> wrecks, int reach) {
        if (wrecks.isEmpty()) {
            return 0;
        }
        int fewest = wrecks.size();
        int least = wrecks.stream().min(Integer::compare).get();
        for (int place = Math.max(0, least - reach); place <= Math.min(99, least + reach); place++) {
            List<Integer> rest = new ArrayList<>();
            for (int w : wrecks) {
                if (Math.abs(w - place) > reach) {
                    rest.add(w);
                }
            }
            if (place == Math.min(99, least + reach) || rest.size() < wrecks.size() - 1) {
                fewest = Math.min(fewest, 1 + few(rest, reach));
            }
        }
        return fewest;
    }

    int stations(int reach, int what) {
        if (reach < 0 || reach > 50 || what < 0 || what > 1) {
            return OUTSIDE;
        }
        if (what == 0) {
            return few(now.wrecks, reach);
        }
        return now.wrecks.isEmpty() ? NONE : Math.min(99, reach + now.wrecks.stream().min(Integer::compare).get());
    }

    int nights(int seed, int what) {
        if (seed < 0 || what < 0 || what > 3) {
            return OUTSIDE;
        }
        if (lost()) {
            return STATE;
        }
        BigInteger[] s = {BigInteger.valueOf(seed)};
        boolean line = now.line;
        boolean broken = false;
        int shots = 0;
        List<Rocket> left = left();
        int stage = now.minute / 5;
        while (!line && !left.isEmpty() && !broken) {
            int g = draw(s);
            int gust = g < digit(5) ? -1 : g < digit(5) + digit(6) ? 0 : 1;
            line = right(falls(left.remove(0), stage, gust));
            shots++;
            if (!line) {
                int b = draw(s);
                broken = b < digit(9 + stage) || stage == stages() - 1;
                stage++;
            }
        }
        return new int[] {line ? 1 : 0, shots, broken ? 1 : 0, s[0].intValueExact()}[what];
    }

    private static int draw(BigInteger[] s) {
        s[0] = s[0].multiply(BigInteger.valueOf(1103515245)).add(BigInteger.valueOf(12345))
                .mod(BigInteger.ONE.shiftLeft(31));
        return s[0].divide(BigInteger.valueOf(65536)).mod(BigInteger.TEN).intValue();
    }

    private int keptRockets;
    private int keptMen;

    int image() {
        if (none()) {
            return STATE;
        }
        kept = now.copy();
        keptRockets = rockets.size();
        keptMen = men.size();
        return now.minute;
    }

    int restore() {
        if (kept == null || keptRockets != rockets.size() || keptMen != men.size()) {
            return STATE;
        }
        now = kept.copy();
        return now.minute;
    }

    int count(int what) {
        int[] all = {rockets.size(), now.fired.size(), men.size(), now.over.size(), now.minute, now.line ? 1 : 0,
                now.broken ? 1 : 0, stages(), now.hawser, now.said.size(), now.wrecks.size(), page.length(),
                nights, ordersDone};
        return what < 0 || what > 13 ? OUTSIDE : all[what];
    }

    long digest() {
        List<Long> all = new ArrayList<>();
        for (int what = 0; !none() && what <= 19; what++) {
            if (what < 5 || what > 9) {
                all.add((long) sea(what));
            }
        }
        for (int rocket = 0; rocket < rockets.size(); rocket++) {
            all.add(hits(rocket, 0, 0));
            all.add(hits(rocket, 0, 1));
        }
        for (int man = 0; man < men.size(); man++) {
            for (int what = 0; what <= 6; what++) {
                all.add((long) about(man, what));
            }
        }
        all.add((long) orders());
        if (!now.wrecks.isEmpty()) {
            all.add((long) stations(10, 0));
            all.add((long) stations(10, 1));
        }
        for (char c : page.toCharArray()) {
            all.add((long) c);
        }
        for (int what = 0; what <= 13; what++) {
            all.add((long) count(what));
        }
        long h = 701;
        for (long number : all) {
            h = 31 * h + number;
        }
        return h;
    }
}
