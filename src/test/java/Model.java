import java.math.BigInteger;
import java.util.ArrayList;
import java.util.Arrays;
import java.util.Comparator;
import java.util.List;
import java.util.NoSuchElementException;

/**
 * A second telling of the document, as plain as can be and unlike AirMail inside: lists of numbers that are copied
 * whole for each trial, every quarter gone through, texts read anew by a recursive reader, all shares of spares tried.
 */
final class Model {
    private static final class TooBad extends RuntimeException {
        private static final long serialVersionUID = 1;
        final int at;

        TooBad(int at) {
            super(null, null, false, false);
            this.at = at;
        }
    }

    private static final class Rule {
        int kind;
        int from;
        String text;
    }

    // rows: field {height, lamp, spares}; leg {a, b, miles, pass}; ground {leg, mile, rough}
    private List<int[]> fields = new ArrayList<>();
    private List<int[]> legs = new ArrayList<>();
    private List<int[]> grounds = new ArrayList<>();
    // weather {leg, quarter, cloud, wind}; word {field, came, elsewhere, leg, seen, cloud, wind}
    private List<int[]> weathers = new ArrayList<>();
    private List<int[]> words = new ArrayList<>();
    private List<int[]> planes = new ArrayList<>();
    private List<int[]> pilots = new ArrayList<>();
    private List<int[]> bags = new ArrayList<>();
    private List<int[]> flights = new ArrayList<>();
    private List<int[]> steps = new ArrayList<>();
    private List<int[]> looks = new ArrayList<>();
    private List<Rule> rules = new ArrayList<>();
    private List<Rule> laws = new ArrayList<>();
    private List<Integer> row = new ArrayList<>();
    private StringBuilder text = new StringBuilder();
    private int now;
    private int spent;
    private int lag = 4;
    private int glide = 6;
    private int rate = 1;

    private static final int SPEED = 0, LIFT = 1, TOP = 2, TANK = 3, GEAR = 4, USED = 5, DUE = 6, FAILS = 7, FIELD = 8,
        LEG = 9, MILE = 10, TOWARD = 11, DOWN = 12, HURT = 13, READY = 14, FUEL = 15, PILOT = 16, FLIGHT = 17;

    private static List<int[]> copy(List<int[]> of) {
        List<int[]> to = new ArrayList<>();
        for (int[] one : of) {
            to.add(one.clone());
        }
        return to;
    }

    private Model copy() {
        Model m = new Model();
        m.fields = copy(fields);
        m.legs = copy(legs);
        m.grounds = copy(grounds);
        m.weathers = copy(weathers);
        m.words = copy(words);
        m.planes = copy(planes);
        m.pilots = copy(pilots);
        m.bags = copy(bags);
        m.flights = copy(flights);
        m.steps = copy(steps);
        m.looks = copy(looks);
        m.rules = new ArrayList<>(rules);
        m.laws = new ArrayList<>(laws);
        m.now = now;
        m.spent = spent;
        m.lag = lag;
        m.glide = glide;
        m.rate = rate;
        return m;
    }

    private static boolean has(List<?> list, int i) {
        return 0 <= i && i < list.size();
    }

    private static boolean in(int low, int v, int high) {
        return low <= v && v <= high;
    }

    private static int up(int a, int b) {
        return a % b == 0 ? a / b : a / b + 1;
    }

    // ---- the land

    int field(int height, boolean lamp, int spares) {
        if (!in(0, height, 99) || !in(0, spares, 9) || fields.size() == 8) {
            return -1;
        }
        fields.add(new int[] {height, lamp ? 1 : 0, spares});
        return fields.size() - 1;
    }

    boolean lamp(int field, boolean is) {
        if (!has(fields, field)) {
            return false;
        }
        fields.get(field)[1] = is ? 1 : 0;
        return true;
    }

    int leg(int a, int b, int miles, int pass) {
        if (!has(fields, a) || !has(fields, b) || a == b || !in(10, miles, 400) || !in(0, pass, 150)
            || legs.size() == 12) {
            return -1;
        }
        legs.add(new int[] {a, b, miles, pass});
        return legs.size() - 1;
    }

    int ground(int leg, int mile, int rough) {
        if (!has(legs, leg) || !in(1, mile, legs.get(leg)[2] - 1) || !in(0, rough, 3)) {
            return -1;
        }
        int n = 0;
        for (int[] g : grounds) {
            n += g[0] == leg ? 1 : 0;
        }
        if (n == 4) {
            return -1;
        }
        grounds.add(new int[] {leg, mile, rough});
        return n + 1;
    }

    int far(int a, int b) {
        if (!has(fields, a) || !has(fields, b)) {
            return -1;
        }
        int[] d = new int[8];
        Arrays.fill(d, 1 << 20);
        d[a] = 0;
        for (int round = 0; round < 8; round++) {
            for (int[] l : legs) {
                d[l[0]] = Math.min(d[l[0]], d[l[1]] + l[2]);
                d[l[1]] = Math.min(d[l[1]], d[l[0]] + l[2]);
            }
        }
        return d[b] >= 1 << 20 ? -1 : d[b];
    }

    int weather(int leg, int quarter, int cloud, int wind) {
        if (!has(legs, leg) || !in(0, quarter, 3000) || !in(0, cloud, 200) || !in(-9, wind, 9)
            || weathers.size() == 60) {
            return -1;
        }
        weathers.add(new int[] {leg, quarter, cloud, wind});
        return weathers.size();
    }

    int sky(int leg, int quarter, int what) {
        if (!has(legs, leg) || !in(0, quarter, 3000) || !in(0, what, 1)) {
            throw new NoSuchElementException();
        }
        for (int q = quarter; q >= 0; q--) {
            for (int i = weathers.size() - 1; i >= 0; i--) {
                if (weathers.get(i)[0] == leg && weathers.get(i)[1] == q) {
                    return weathers.get(i)[2 + what];
                }
            }
        }
        return what == 0 ? 200 : 0;
    }

    int word(int field, int leg, int seen, int cloud, int wind) {
        if (!has(fields, field) || !has(legs, leg) || !in(0, seen, now) || !in(0, cloud, 200) || !in(-9, wind, 9)
            || words.size() == 120) {
            return -1;
        }
        words.add(new int[] {field, now, now + lag, leg, seen, cloud, wind});
        return words.size();
    }

    private int[] hear(int field, int leg, int quarter) {
        for (int seen = 3000; seen >= 0; seen--) {
            for (int i = words.size() - 1; i >= 0; i--) {
                int[] w = words.get(i);
                if (w[4] == seen && w[3] == leg && (w[0] == field ? w[1] : w[2]) <= quarter) {
                    return w;
                }
            }
        }
        return null;
    }

    int heard(int field, int leg, int quarter, int what) {
        if (!has(fields, field) || !has(legs, leg) || !in(0, quarter, 3000) || !in(0, what, 2)) {
            throw new NoSuchElementException();
        }
        int[] w = hear(field, leg, quarter);
        if (w == null) {
            throw new NoSuchElementException();
        }
        return w[4 + what];
    }

    /** For a test that looks for flights which can start. */
    boolean isEnd(int leg, int field) {
        return has(legs, leg) && (legs.get(leg)[0] == field || legs.get(leg)[1] == field);
    }

    // ---- planes, pilots, bags

    int plane(int field, int speed, int lift, int top, int tank, boolean gear) {
        if (!has(fields, field) || !in(5, speed, 60) || !in(50, lift, 3000) || !in(20, top, 250) || !in(1, tank, 60)
            || planes.size() == 8) {
            return -1;
        }
        planes.add(new int[] {speed, lift, top, tank, gear ? 1 : 0, 0, 400, 0, field, -1, -1, 0, 0, 0, 0, 0, -1, -1});
        return planes.size() - 1;
    }

    boolean engine(int plane, int used, int due, int fails) {
        if (!has(planes, plane) || !in(0, used, 999) || !in(1, due, 999) || !in(0, fails, 999)) {
            return false;
        }
        planes.get(plane)[USED] = used;
        planes.get(plane)[DUE] = due;
        planes.get(plane)[FAILS] = fails;
        return true;
    }

    // pilot {field, plane, flown, knows}
    int pilot(int field, int knows) {
        if (!has(fields, field) || knows < 0 || knows >= 1 << legs.size() || pilots.size() == 8) {
            return -1;
        }
        pilots.add(new int[] {field, -1, 0, knows});
        return pilots.size() - 1;
    }

    boolean learns(int pilot, int leg) {
        if (!has(pilots, pilot) || !has(legs, leg)) {
            return false;
        }
        pilots.get(pilot)[3] |= 1 << leg;
        return true;
    }

    // bag {from, to, weight, class, due, field, plane, train, given}
    int bag(int from, int to, int weight, int kind, int due) {
        if (!has(fields, from) || !has(fields, to) || from == to || !in(1, weight, 500) || !in(0, kind, 9)
            || !in(0, due, 3000) || far(from, to) == -1 || bags.size() == 30) {
            return -1;
        }
        bags.add(new int[] {from, to, weight, kind, due, from, -1, -1, -1});
        steps.add(new int[] {bags.size() - 1, now, from});
        return bags.size() - 1;
    }

    private void place(int bag, int field, int plane, int train) {
        int[] b = bags.get(bag);
        b[5] = field;
        b[6] = plane;
        b[7] = train;
        int place = train != -1 ? 200 : plane != -1 ? 100 + plane : field;
        if (field == b[1]) {
            b[5] = -1;
            b[8] = now;
            place = 300;
        }
        steps.add(new int[] {bag, now, place});
    }

    int train(int bag) {
        if (!has(bags, bag) || bags.get(bag)[5] == -1) {
            return -1;
        }
        int comes = now + Math.max(1, up(far(bags.get(bag)[5], bags.get(bag)[1]), 4));
        place(bag, -1, -1, comes);
        return comes;
    }

    int set(int what, int v) {
        if (!in(0, what, 2) || !in(0, v, what == 0 ? 20 : what == 1 ? 50 : 99)) {
            return -1;
        }
        int was = what == 0 ? lag : what == 1 ? glide : rate;
        lag = what == 0 ? v : lag;
        glide = what == 1 ? v : glide;
        rate = what == 2 ? v : rate;
        return was;
    }

    // ---- texts

    int sign(int v) {
        if (text.length() > 96) {
            return -1;
        }
        for (int i = 3; i >= 0; i--) {
            text.append((char) (v >>> 8 * i & 255));
        }
        return text.length();
    }

    boolean end(int n) {
        if (n < 0 || n > text.length()) {
            return false;
        }
        text.setLength(n);
        return true;
    }

    int force(int kind, int from) {
        String t = text.toString();
        text.setLength(0);
        List<Rule> into = kind == 2 ? laws : rules;
        if (!in(0, kind, 2) || !in(0, from, kind == 2 ? 99 : 3000) || into.size() == (kind == 2 ? 12 : 20)) {
            return -100;
        }
        try {
            new Reader(t, kind, new int[26]).readAll();
            if (t.length() > 60) {
                return -61;
            }
        } catch (TooBad e) {
            return -1 - Math.min(60, e.at);
        }
        Rule rule = new Rule();
        rule.kind = kind;
        rule.from = from;
        rule.text = t;
        into.add(rule);
        return into.size();
    }

    /** Reads and works out at once; it throws where a sign can't stand. */
    private static final class Reader {
        private final String t;
        private final int kind;
        private final int[] letters;
        private int p;
        int line = -2;
        char act;

        Reader(String t, int kind, int[] letters) {
            this.t = t;
            this.kind = kind;
            this.letters = letters;
        }

        private int next() {
            return p < t.length() ? t.charAt(p) : -1;
        }

        private boolean takes(char c) {
            if (next() == c) {
                p++;
                return true;
            }
            return false;
        }

        private int wrong() {
            throw new TooBad(p);
        }

        int readAll() {
            int v = kind == 2 ? choice() : lines();
            return p < t.length() ? wrong() : v;
        }

        private int lines() {
            int number = 0;
            do {
                boolean is = next() == ':' || or() != 0;
                if (!takes(':')) {
                    wrong();
                }
                if (next() == -1 || (kind == 0 ? "GW" : "GTL").indexOf(next()) < 0) {
                    wrong();
                }
                if (is && line == -2) {
                    line = number;
                    act = t.charAt(p);
                }
                p++;
                number++;
            } while (takes(';'));
            return 0;
        }

        private int choice() {
            int v = or();
            if (!takes('?')) {
                return v;
            }
            int yes = choice();
            if (!takes(':')) {
                wrong();
            }
            int no = choice();
            return v != 0 ? yes : no;
        }

        private int or() {
            int v = and();
            while (takes('|')) {
                int b = and();
                v = v != 0 || b != 0 ? 1 : 0;
            }
            return v;
        }

        private int and() {
            int v = comparison();
            while (takes('&')) {
                int b = comparison();
                v = v != 0 && b != 0 ? 1 : 0;
            }
            return v;
        }

        private int comparison() {
            int a = sum();
            if (takes('<')) {
                return a < sum() ? 1 : 0;
            }
            if (takes('>')) {
                return a > sum() ? 1 : 0;
            }
            if (takes('=')) {
                return a == sum() ? 1 : 0;
            }
            return a;
        }

        private int sum() {
            int v = product();
            while (true) {
                if (takes('+')) {
                    v += product();
                } else if (takes('-')) {
                    v -= product();
                } else {
                    return v;
                }
            }
        }

        private int product() {
            int v = thing();
            while (takes('*')) {
                v *= thing();
            }
            return v;
        }

        private int thing() {
            if (takes('!')) {
                return thing() == 0 ? 1 : 0;
            }
            if (takes('-')) {
                return -thing();
            }
            if (takes('(')) {
                int v = or();
                return takes(')') ? v : wrong();
            }
            int c = next();
            if (c >= 'a' && (kind == 2 ? "wmstd" : "cwanlkhfgu").indexOf(c) >= 0) {
                p++;
                return letters[c - 'a'];
            }
            int v = 0;
            int digits = 0;
            while (digits < 3 && in('0', next(), '9')) {
                v = 10 * v + next() - '0';
                p++;
                digits++;
            }
            return digits == 0 ? wrong() : v;
        }
    }

    private static Rule inForce(List<Rule> among, int kind, int time) {
        Rule best = null;
        for (Rule r : among) {
            if (r.kind == kind && r.from <= time && (best == null || best.from <= r.from)) {
                best = r;
            }
        }
        return best;
    }

    // ---- flights; flight {plane, pilot, leg, quarter, state, started, ended, start field, line 0, line 1}

    int flight(int plane, int pilot, int leg, int quarter) {
        if (!has(planes, plane) || !has(pilots, pilot) || !has(legs, leg) || !in(now, quarter, 3000)
            || flights.size() == 24) {
            return -1;
        }
        flights.add(new int[] {plane, pilot, leg, quarter, 0, -1, -1, -1, -3, -3});
        return flights.size() - 1;
    }

    boolean cancel(int flight) {
        if (!has(flights, flight) || flights.get(flight)[4] != 0) {
            return false;
        }
        flights.get(flight)[4] = 3;
        flights.get(flight)[6] = now;
        return true;
    }

    int step(int n) {
        if (!in(0, n, 400) || now + n > 3000) {
            return -1;
        }
        for (int i = 0; i < n; i++) {
            quarter();
        }
        return now;
    }

    private boolean night() {
        return now % 96 < 24 || now % 96 >= 72;
    }

    private void quarter() {
        if (now % 96 == 0) {
            for (int[] p : pilots) {
                p[2] = 0;
            }
        }
        for (int b = 0; b < bags.size(); b++) {
            if (bags.get(b)[7] == now) {
                place(b, bags.get(b)[1], -1, -1);
            }
        }
        for (int f = 0; f < flights.size(); f++) {
            int[] flight = flights.get(f);
            if (flight[4] == 0 && flight[3] <= now) {
                if (now - flight[3] >= 16) {
                    cancel(f);
                } else {
                    int[] line = new int[] {-3};
                    boolean starts = mayStart(flight, line) == 0;
                    flight[8] = line[0] == -3 ? flight[8] : line[0];
                    if (starts) {
                        start(f);
                    }
                }
            }
        }
        for (int p = 0; p < planes.size(); p++) {
            if (planes.get(p)[FIELD] == -1 && planes.get(p)[DOWN] == 0) {
                fly(p);
            }
        }
        now++;
    }

    private int carry(int[] plane, int[] leg) {
        return Math.min(plane[LIFT] - 5 * fields.get(plane[FIELD])[0], 50 * (plane[TOP] - plane[USED] / 20 - leg[3]));
    }

    private int mayStart(int[] flight, int[] line) {
        int[] plane = planes.get(flight[0]);
        int[] pilot = pilots.get(flight[1]);
        int[] leg = legs.get(flight[2]);
        int at = plane[FIELD];
        if (at == -1 || pilot[0] != at || (leg[0] != at && leg[1] != at)) {
            return 1;
        }
        if (plane[HURT] > 0) {
            return 2;
        }
        if (plane[READY] > now) {
            return 3;
        }
        if (plane[USED] >= plane[DUE]) {
            return 4;
        }
        if (night() && plane[GEAR] == 0) {
            return 5;
        }
        if (carry(plane, leg) < 0) {
            return 6;
        }
        int[] word = hear(at, flight[2], now);
        int[] l = new int[26];
        int way = at == leg[0] ? 1 : -1;
        l['c' - 'a'] = word == null ? 0 : word[5] - leg[3];
        l['w' - 'a'] = word == null ? 0 : way * word[6];
        l['a' - 'a'] = word == null ? 999 : now - word[4];
        l['f' - 'a'] = plane[TANK];
        l['g' - 'a'] = up(leg[2], plane[SPEED]);
        return ask(0, l, flight, way, line) == 'G' ? 0 : 7;
    }

    private char ask(int kind, int[] l, int[] flight, int way, int[] line) {
        int[] plane = planes.get(flight[0]);
        int[] pilot = pilots.get(flight[1]);
        int[] leg = legs.get(flight[2]);
        l['n' - 'a'] = night() ? 1 : 0;
        l['l' - 'a'] = fields.get(way > 0 ? leg[1] : leg[0])[1];
        l['k' - 'a'] = pilot[3] >> flight[2] & 1;
        l['h' - 'a'] = pilot[2];
        l['u' - 'a'] = plane[DUE] - plane[USED];
        Rule rule = inForce(rules, kind, now);
        line[0] = -2;
        if (rule == null) {
            return kind == 0 ? 'W' : 'G';
        }
        Reader r = new Reader(rule.text, kind, l);
        r.readAll();
        line[0] = r.line;
        return r.line == -2 ? kind == 0 ? 'W' : 'G' : r.act;
    }

    private void start(int f) {
        int[] flight = flights.get(f);
        int[] plane = planes.get(flight[0]);
        int[] leg = legs.get(flight[2]);
        int at = plane[FIELD];
        int other = leg[0] == at ? leg[1] : leg[0];
        int room = carry(plane, leg);
        List<Integer> order = new ArrayList<>();
        for (int b = 0; b < bags.size(); b++) {
            order.add(b);
        }
        order.sort(Comparator.<Integer>comparingInt(b -> bags.get(b)[3]).thenComparingInt(b -> bags.get(b)[4])
            .thenComparingInt(b -> b));
        for (int b : order) {
            int[] bag = bags.get(b);
            if (bag[5] == at && bag[2] <= room
                && (bag[1] == other || far(other, bag[1]) + leg[2] == far(at, bag[1]))) {
                place(b, -1, flight[0], -1);
                room -= bag[2];
            }
        }
        flight[4] = 1;
        flight[5] = now;
        flight[7] = at;
        plane[FIELD] = -1;
        plane[LEG] = flight[2];
        plane[TOWARD] = at == leg[0] ? 1 : -1;
        plane[MILE] = at == leg[0] ? 0 : leg[2];
        plane[FUEL] = plane[TANK];
        plane[PILOT] = flight[1];
        plane[FLIGHT] = f;
        pilots.get(flight[1])[0] = -1;
        pilots.get(flight[1])[1] = flight[0];
    }

    private void fly(int p) {
        int[] plane = planes.get(p);
        int[] flight = flights.get(plane[FLIGHT]);
        int[] pilot = pilots.get(plane[PILOT]);
        int[] leg = legs.get(plane[LEG]);
        plane[USED]++;
        plane[FUEL]--;
        pilot[2]++;
        spent += rate;
        if (plane[USED] == plane[FAILS] || plane[FUEL] < 0) {
            forced(plane, flight, leg);
            return;
        }
        int cloud = sky(plane[LEG], now, 0);
        int wind = sky(plane[LEG], now, 1);
        int[] l = new int[26];
        l['c' - 'a'] = cloud - leg[3];
        l['w' - 'a'] = plane[TOWARD] * wind;
        l['f' - 'a'] = plane[FUEL];
        l['g' - 'a'] = up(plane[TOWARD] > 0 ? leg[2] - plane[MILE] : plane[MILE], plane[SPEED]);
        int[] line = new int[1];
        char act = ask(1, l, flight, plane[TOWARD], line);
        flight[9] = line[0];
        if (act == 'L') {
            forced(plane, flight, leg);
            return;
        }
        if (act == 'T') {
            plane[TOWARD] = -plane[TOWARD];
        }
        if (cloud < leg[3] && (pilot[3] >> plane[LEG] & 1) == 0) {
            forced(plane, flight, leg);
            return;
        }
        plane[MILE] += plane[TOWARD] * Math.max(1, plane[SPEED] + plane[TOWARD] * wind);
        if (plane[MILE] <= 0 || plane[MILE] >= leg[2]) {
            int at = plane[MILE] <= 0 ? leg[0] : leg[1];
            if (night() && (fields.get(at)[1] == 0 || plane[GEAR] == 0)) {
                plane[HURT] = 1;
            }
            flight[4] = 2;
            flight[6] = now;
            if (words.size() < 120) {
                words.add(new int[] {at, now, now + lag, plane[LEG], now, cloud, wind});
            }
            bring(p, at);
        }
    }

    private void bring(int p, int at) {
        int[] plane = planes.get(p);
        pilots.get(plane[PILOT])[0] = at;
        pilots.get(plane[PILOT])[1] = -1;
        plane[FIELD] = at;
        plane[LEG] = -1;
        plane[MILE] = -1;
        plane[DOWN] = 0;
        plane[FUEL] = 0;
        plane[PILOT] = -1;
        for (int b = 0; b < bags.size(); b++) {
            if (bags.get(b)[6] == p) {
                place(b, at, -1, -1);
            }
        }
    }

    private void forced(int[] plane, int[] flight, int[] leg) {
        int[] best = null;
        for (int[] g : grounds) {
            if (g[0] == plane[LEG] && Math.abs(g[1] - plane[MILE]) <= glide) {
                int[] rank = {g[2], Math.abs(g[1] - plane[MILE]), g[1]};
                if (best == null || Arrays.compare(rank, best) < 0) {
                    best = rank;
                }
            }
        }
        plane[HURT] = best == null ? 4 : best[0];
        plane[MILE] = best == null ? plane[MILE] : best[2];
        plane[HURT] += night() ? 1 : 0;
        plane[DOWN] = 1;
        flight[4] = 4;
        flight[6] = now;
    }

    int may(int flight) {
        if (!has(flights, flight) || flights.get(flight)[4] != 0) {
            return -1;
        }
        return mayStart(flights.get(flight), new int[1]);
    }

    int why(int flight, int kind) {
        return has(flights, flight) && in(0, kind, 1) ? flights.get(flight)[8 + kind] : -1;
    }

    int count(int what) {
        int given = 0;
        for (int[] b : bags) {
            given += b[8] == -1 ? 0 : 1;
        }
        int down = 0;
        for (int[] p : planes) {
            down += p[DOWN];
        }
        int[] all = {now, fields.size(), legs.size(), planes.size(), pilots.size(), bags.size(), flights.size(),
            words.size(), given, spent, row.size(), text.length(), down};
        return in(0, what, 12) ? all[what] : -1;
    }

    int of(int plane, int what) {
        if (!has(planes, plane) || !in(0, what, 10)) {
            throw new NoSuchElementException();
        }
        int[] p = planes.get(plane);
        int weight = 0;
        for (int[] b : bags) {
            weight += b[6] == plane ? b[2] : 0;
        }
        int goal = p[FIELD] != -1 || p[DOWN] == 1 ? -1 : legs.get(p[LEG])[p[TOWARD] > 0 ? 1 : 0];
        return new int[] {p[FIELD], p[LEG], p[MILE], p[DOWN], p[HURT], p[USED], p[FUEL], p[READY], weight, p[PILOT],
            goal}[what];
    }

    int who(int pilot, int what) {
        if (!has(pilots, pilot) || !in(0, what, 3)) {
            throw new NoSuchElementException();
        }
        return pilots.get(pilot)[what];
    }

    private static int late(int[] b) {
        return b[8] == -1 ? -1 : Math.max(0, b[8] - b[4]);
    }

    int where(int bag, int what) {
        if (!has(bags, bag) || !in(0, what, 5)) {
            throw new NoSuchElementException();
        }
        int[] b = bags.get(bag);
        return what < 4 ? b[5 + what] : what == 4 ? late(b) : pay(b, inForce(laws, 2, b[8] / 96));
    }

    int flown(int flight, int what) {
        return has(flights, flight) && in(0, what, 2) ? flights.get(flight)[4 + what] : -1;
    }

    // ---- a letter's way, pay

    int lead(int bag) {
        if (!has(bags, bag)) {
            return -1;
        }
        row.clear();
        for (int[] s : steps) {
            if (s[0] == bag && row.size() < 32) {
                row.add(s[1]);
                row.add(s[2]);
            }
        }
        return row.size() / 2;
    }

    private int pay(int[] b, Rule law) {
        if (b[8] == -1 || law == null) {
            return 0;
        }
        int[] l = new int[26];
        l['w' - 'a'] = b[2];
        l['m' - 'a'] = far(b[0], b[1]);
        l['s' - 'a'] = b[3];
        l['t' - 'a'] = late(b);
        l['d' - 'a'] = b[8] / 96;
        return Math.max(0, new Reader(law.text, 2, l).readAll());
    }

    int judge(int law) {
        if (!has(laws, law)) {
            return -1;
        }
        int sum = 0;
        for (int[] b : bags) {
            sum += pay(b, laws.get(law));
        }
        return sum;
    }

    int coin() {
        int sum = -spent;
        for (int b = 0; b < bags.size(); b++) {
            sum += where(b, 5);
        }
        return sum;
    }

    // ---- down

    private boolean down(int plane) {
        return has(planes, plane) && planes.get(plane)[DOWN] == 1;
    }

    int find(int plane) {
        if (!down(plane)) {
            return -1;
        }
        int[] leg = legs.get(planes.get(plane)[LEG]);
        int at = 2 * planes.get(plane)[MILE] > leg[2] ? leg[1] : leg[0];
        looks.removeIf(l -> l[0] == plane);
        bring(plane, at);
        return at;
    }

    private int cells(int plane) {
        return down(plane) ? legs.get(planes.get(plane)[LEG])[2] / 10 + 1 : 0;
    }

    int look(int plane, int cell, int sight) {
        int n = 1;
        for (int[] l : looks) {
            n += l[0] == plane ? 1 : 0;
        }
        if (!in(0, cell, cells(plane) - 1) || !in(1, sight, 99) || n > 4) {
            return -1;
        }
        looks.add(new int[] {plane, cell, sight});
        return n;
    }

    /** Numerators over one denominator, the last one. */
    private BigInteger[] chances(int plane) {
        int[] p = planes.get(plane);
        int[] leg = legs.get(p[LEG]);
        int n = cells(plane);
        BigInteger[] w = new BigInteger[n + 1];
        Arrays.fill(w, BigInteger.ZERO);
        boolean none = true;
        for (int q = 1; q <= p[TANK]; q++) {
            int mile = p[SPEED] * q;
            if (mile < leg[2]) {
                mile = flights.get(p[FLIGHT])[7] == leg[0] ? mile : leg[2] - mile;
                w[mile / 10] = w[mile / 10].add(BigInteger.ONE);
                none = false;
            }
        }
        for (int i = 0; i < n; i++) {
            w[i] = (none ? BigInteger.ONE : w[i]).multiply(BigInteger.valueOf(100).pow(8));
        }
        for (int[] l : looks) {
            if (l[0] == plane) {
                w[l[1]] = w[l[1]].multiply(BigInteger.valueOf(100 - l[2])).divide(BigInteger.valueOf(100));
            }
        }
        for (int i = 0; i < n; i++) {
            w[n] = w[n].add(w[i]);
        }
        return w;
    }

    long chance(int plane, int cell, int what) {
        if (!in(0, cell, cells(plane) - 1) || !in(0, what, 1)) {
            throw new NoSuchElementException();
        }
        BigInteger[] w = chances(plane);
        BigInteger gcd = w[cell].gcd(w[w.length - 1]);
        return (what == 0 ? w[cell] : w[w.length - 1]).divide(gcd).longValueExact();
    }

    int lanes(int plane, int p, int q) {
        if (!down(plane) || !in(1, p, 99) || !in(1, q, 99)) {
            return -1;
        }
        BigInteger[] w = chances(plane);
        int best = -1;
        BigInteger most = null;
        for (int i = 0; i < w.length - 1; i++) {
            for (int j = 0; j < w.length - 1; j++) {
                BigInteger v = w[i].multiply(BigInteger.valueOf(p)).add(w[j].multiply(BigInteger.valueOf(q)));
                if (i != j && (most == null || v.compareTo(most) > 0)) {
                    most = v;
                    best = 100 * i + j;
                }
            }
        }
        return best;
    }

    // ---- spares

    private List<Integer> needy() {
        List<Integer> need = new ArrayList<>();
        for (int p = 0; p < planes.size(); p++) {
            int[] x = planes.get(p);
            if (x[FIELD] != -1 && (x[HURT] > 0 || x[USED] >= x[DUE]) && x[READY] <= now) {
                need.add(p);
            }
        }
        return need;
    }

    int needs() {
        return needy().size();
    }

    private int[] bestShare;
    private int[] bestRank;

    private void share(List<Integer> need, int[] share, int i, int served, int quarters) {
        if (i == share.length) {
            int[] rank = new int[2 + i];
            rank[0] = -served;
            rank[1] = quarters;
            for (int k = 0; k < i; k++) {
                rank[2 + k] = share[k] == -1 ? 99 : share[k];
            }
            if (bestRank == null || Arrays.compare(rank, bestRank) < 0) {
                bestRank = rank;
                bestShare = share.clone();
            }
            return;
        }
        if (bestRank != null && -(served + share.length - i) > bestRank[0]) {
            return;
        }
        int at = planes.get(need.get(i))[FIELD];
        for (int f = 0; f < fields.size(); f++) {
            if (fields.get(f)[2] > 0 && far(f, at) != -1) {
                fields.get(f)[2]--;
                share[i] = f;
                share(need, share, i + 1, served + 1, quarters + up(far(f, at), 8));
                fields.get(f)[2]++;
            }
        }
        share[i] = -1;
        share(need, share, i + 1, served, quarters);
    }

    int send() {
        List<Integer> need = needy();
        bestRank = null;
        share(need, new int[need.size()], 0, 0, 0);
        row.clear();
        for (int i = 0; i < need.size(); i++) {
            row.add(bestShare[i]);
            if (bestShare[i] != -1) {
                int[] p = planes.get(need.get(i));
                p[HURT] = 0;
                p[USED] = 0;
                p[FAILS] = 0;
                p[READY] = now + up(far(bestShare[i], p[FIELD]), 8);
                fields.get(bestShare[i])[2]--;
            }
        }
        return bestRank[1];
    }

    // ---- plans

    private boolean untriable(int n) {
        return !in(0, n, 200) || now + n > 3000;
    }

    int plan(int n) {
        if (untriable(n)) {
            return -1;
        }
        List<Integer> wait = new ArrayList<>();
        for (int f = 0; f < flights.size() && wait.size() < 6; f++) {
            if (flights.get(f)[4] == 0) {
                wait.add(f);
            }
        }
        int[] best = null;
        for (int bits = 0; bits < 1 << wait.size(); bits++) {
            Model m = copy();
            for (int i = 0; i < wait.size(); i++) {
                if ((bits >> i & 1) == 0) {
                    m.cancel(wait.get(i));
                }
            }
            m.step(n);
            int[] rank = {m.coin(), -Integer.bitCount(bits), -bits};
            if (best == null || Arrays.compare(rank, best) > 0) {
                best = rank;
            }
        }
        row.clear();
        row.add(-best[2]);
        return best[0];
    }

    int lamps(int k, int n) {
        List<Integer> dark = new ArrayList<>();
        for (int f = 0; f < fields.size(); f++) {
            if (fields.get(f)[1] == 0) {
                dark.add(f);
            }
        }
        if (untriable(n) || !in(0, k, 2) || dark.size() < k) {
            return -1;
        }
        List<int[]> choices = new ArrayList<>();
        if (k == 0) {
            choices.add(new int[0]);
        }
        for (int i = 0; i < dark.size(); i++) {
            if (k == 1) {
                choices.add(new int[] {dark.get(i)});
            }
            for (int j = i + 1; j < dark.size() && k == 2; j++) {
                choices.add(new int[] {dark.get(i), dark.get(j)});
            }
        }
        int[] best = null;
        int[] at = null;
        for (int[] choice : choices) {
            Model m = copy();
            for (int f : choice) {
                m.lamp(f, true);
            }
            m.step(n);
            int inTime = 0;
            for (int[] b : m.bags) {
                inTime += late(b) == 0 ? 1 : 0;
            }
            int[] rank = {inTime, m.coin()};
            if (best == null || Arrays.compare(rank, best) > 0) {
                best = rank;
                at = choice;
            }
        }
        row.clear();
        for (int f : at) {
            row.add(f);
        }
        return best[0];
    }

    int tried(int n) {
        if (untriable(n)) {
            return -1;
        }
        Model m = copy();
        m.step(n);
        return m.coin();
    }

    int row(int i) {
        if (!has(row, i)) {
            throw new NoSuchElementException();
        }
        return row.get(i);
    }
}
