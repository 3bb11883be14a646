import java.util.Arrays;
import java.util.NoSuchElementException;

/**
 * Mail by air: fields and legs, weather and words of it, planes, pilots, bags and flights that go on quarter by
 * quarter, rules and laws as texts, searches, spares and plans that are tried out.
 */
public final class AirMail {
    public static final int NONE = -1;

    private static final int LAST_QUARTER = 3000;
    private static final int LAST_DAY = 99;
    private static final int QUARTERS_A_DAY = 96;
    private static final int MOST_FIELDS = 8;
    private static final int MOST_LEGS = 12;
    private static final int MOST_PLANES = 8;
    private static final int MOST_PILOTS = 8;
    private static final int MOST_BAGS = 30;
    private static final int MOST_FLIGHTS = 24;
    private static final int MOST_SIGNS = 100;
    private static final int MOST_TEXT = 60;
    private static final int MOST_CELLS = 41;
    private static final int MOST_TRIED = 200;
    private static final int MOST_STEPPED = 400;
    private static final int MOST_PLANNED = 6;
    private static final int FORCE_REFUSED = -100;

    private static final int KIND_START = 0;
    private static final int KIND_ALOFT = 1;
    private static final int KIND_LAW = 2;

    private final Land land;
    private final World world;
    private final Spares depot;
    private final Parser parser;
    private final long[] weights;
    private final int[] signs;
    private int signCount;
    private final int[] numbers;
    private int numberCount;

    public AirMail() {
        land = new Land();
        world = new World(land);
        depot = new Spares();
        parser = new Parser();
        weights = new long[MOST_CELLS];
        signs = new int[MOST_SIGNS];
        numbers = new int[2 * Bag.MOST_STEPS];
    }

    // ---- the land

    public int field(int height, boolean lamp, int spares) {
        if (!within(height, 0, 99) || !within(spares, 0, 9) || land.fieldCount >= MOST_FIELDS) {
            return NONE;
        }
        return land.addField(height, lamp, spares);
    }

    public boolean lamp(int field, boolean is) {
        if (!isField(field)) {
            return false;
        }
        land.lit[field] = is;
        return true;
    }

    public int leg(int a, int b, int miles, int pass) {
        if (!isField(a) || !isField(b) || a == b || land.legCount >= MOST_LEGS) {
            return NONE;
        }
        if (!within(miles, 10, 400) || !within(pass, 0, 150)) {
            return NONE;
        }
        return land.addLeg(a, b, miles, pass);
    }

    public int ground(int leg, int mile, int rough) {
        if (!isLeg(leg) || !within(rough, 0, 3)) {
            return NONE;
        }
        Leg on = land.legs[leg];
        if (!within(mile, 1, on.miles - 1) || on.groundCount >= Leg.MOST_GROUNDS) {
            return NONE;
        }
        return on.addGround(mile, rough);
    }

    public int far(int a, int b) {
        if (!isField(a) || !isField(b)) {
            return NONE;
        }
        int miles = land.milesBetween(a, b);
        return miles >= Land.NO_WAY ? NONE : miles;
    }

    public int weather(int leg, int quarter, int cloud, int wind) {
        if (!isLeg(leg) || !isQuarter(quarter) || !isWeather(cloud, wind) || land.told >= Land.MOST_TOLD) {
            return NONE;
        }
        return land.tell(leg, quarter, cloud, wind);
    }

    public int sky(int leg, int quarter, int what) throws NoSuchElementException {
        if (!isLeg(leg) || !isQuarter(quarter) || !within(what, 0, 1)) {
            throw new NoSuchElementException("no such leg, quarter or what");
        }
        return what == 0 ? land.cloudAt(leg, quarter) : land.windAt(leg, quarter);
    }

    public int word(int field, int leg, int seen, int cloud, int wind) {
        if (!isField(field) || !isLeg(leg) || !within(seen, 0, world.now) || !isWeather(cloud, wind)) {
            return NONE;
        }
        if (world.words.count >= Words.MOST) {
            return NONE;
        }
        world.words.come(field, world.now, leg, seen, cloud, wind);
        return world.words.count;
    }

    public int heard(int field, int leg, int quarter, int what) throws NoSuchElementException {
        if (!isField(field) || !isLeg(leg) || !isQuarter(quarter) || !within(what, 0, 2)) {
            throw new NoSuchElementException("no such field, leg, quarter or what");
        }
        int at = world.words.latest(field, leg, quarter);
        if (at == NONE) {
            throw new NoSuchElementException("no word has come");
        }
        switch (what) {
            case 0:
                return world.words.seen[at];
            case 1:
                return world.words.cloud[at];
            default:
                return world.words.wind[at];
        }
    }

    // ---- planes, pilots, bags

    public int plane(int field, int speed, int lift, int top, int tank, boolean gear) {
        if (!isField(field) || !within(speed, 5, 60) || !within(lift, 50, 3000)) {
            return NONE;
        }
        if (!within(top, 20, 250) || !within(tank, 1, 60) || world.planeCount >= MOST_PLANES) {
            return NONE;
        }
        world.planes[world.planeCount] = new Plane(field, speed, lift, top, tank, gear);
        return world.planeCount++;
    }

    public boolean engine(int plane, int used, int due, int fails) {
        if (!isPlane(plane) || !within(used, 0, 999) || !within(due, 1, 999) || !within(fails, 0, 999)) {
            return false;
        }
        Plane its = world.planes[plane];
        its.used = used;
        its.due = due;
        its.fails = fails;
        return true;
    }

    public int pilot(int field, int knows) {
        int allLegs = (1 << land.legCount) - 1;
        if (!isField(field) || !within(knows, 0, allLegs) || world.pilotCount >= MOST_PILOTS) {
            return NONE;
        }
        world.pilots[world.pilotCount] = new Pilot(field, knows);
        return world.pilotCount++;
    }

    public boolean learns(int pilot, int leg) {
        if (!isPilot(pilot) || !isLeg(leg)) {
            return false;
        }
        world.pilots[pilot].knows |= 1 << leg;
        return true;
    }

    public int bag(int from, int to, int weight, int kind, int due) {
        if (!isField(from) || !isField(to) || from == to || !within(weight, 1, 500)) {
            return NONE;
        }
        if (!within(kind, 0, 9) || !isQuarter(due) || world.bagCount >= MOST_BAGS) {
            return NONE;
        }
        if (land.milesBetween(from, to) >= Land.NO_WAY) {
            return NONE;
        }
        return world.addBag(new Bag(from, to, weight, kind, due));
    }

    public int train(int bag) {
        if (!isBag(bag) || world.bags[bag].field == NONE) {
            return NONE;
        }
        Bag goes = world.bags[bag];
        int quarters = Math.max(1, roundUp(land.milesBetween(goes.field, goes.to), 4));
        goes.entrain(world.now, world.now + quarters);
        return goes.trainAt;
    }

    public int set(int what, int v) {
        int was = NONE;
        if (what == 0 && within(v, 0, 20)) {
            was = world.words.lag;
            world.words.lag = v;
        } else if (what == 1 && within(v, 0, 50)) {
            was = world.glide;
            world.glide = v;
        } else if (what == 2 && within(v, 0, 99)) {
            was = world.rate;
            world.rate = v;
        }
        return was;
    }

    // ---- texts

    public int sign(int v) {
        if (signCount + 4 > MOST_SIGNS) {
            return NONE;
        }
        for (int shift = 24; shift >= 0; shift -= 8) {
            signs[signCount] = (v >>> shift) & 255;
            signCount++;
        }
        return signCount;
    }

    public boolean end(int n) {
        if (!within(n, 0, signCount)) {
            return false;
        }
        signCount = n;
        return true;
    }

    public int force(int kind, int from) {
        int length = signCount;
        signCount = 0;
        if (!mayForce(kind, from)) {
            return FORCE_REFUSED;
        }
        int wrong = parser.firstWrong(signs, length, kind);
        if (wrong != NONE) {
            return -1 - wrong;
        }
        Texts among = kind == KIND_LAW ? world.laws : world.rules;
        return among.add(kind, from, parser.code, parser.length);
    }

    private boolean mayForce(int kind, int from) {
        if (kind == KIND_LAW) {
            return within(from, 0, LAST_DAY) && !world.laws.isFull();
        }
        return within(kind, KIND_START, KIND_ALOFT) && isQuarter(from) && !world.rules.isFull();
    }

    // ---- flights

    public int flight(int plane, int pilot, int leg, int quarter) {
        if (!isPlane(plane) || !isPilot(pilot) || !isLeg(leg)) {
            return NONE;
        }
        if (!within(quarter, world.now, LAST_QUARTER) || world.flightCount >= MOST_FLIGHTS) {
            return NONE;
        }
        world.flights[world.flightCount] = new Flight(plane, pilot, leg, quarter);
        return world.flightCount++;
    }

    public boolean cancel(int flight) {
        if (!isFlight(flight) || !world.flights[flight].waits()) {
            return false;
        }
        world.flights[flight].finish(Flight.GIVEN_UP, world.now);
        return true;
    }

    public int step(int n) {
        if (!within(n, 0, MOST_STEPPED) || world.now + n > LAST_QUARTER) {
            return NONE;
        }
        world.pass(n);
        return world.now;
    }

    public int may(int flight) {
        if (!isFlight(flight) || !world.flights[flight].waits()) {
            return NONE;
        }
        int hindrance = world.hindrance(world.flights[flight]);
        if (hindrance != 0) {
            return hindrance;
        }
        return world.startAct(world.flights[flight]) == 'G' ? 0 : World.ACT_IS_WAIT;
    }

    public int why(int flight, int kind) {
        if (!isFlight(flight) || !within(kind, KIND_START, KIND_ALOFT)) {
            return NONE;
        }
        Flight asked = world.flights[flight];
        return kind == KIND_START ? asked.lineAtStart : asked.lineAloft;
    }

    public int count(int what) {
        switch (what) {
            case 0:
                return world.now;
            case 1:
                return land.fieldCount;
            case 2:
                return land.legCount;
            case 3:
                return world.planeCount;
            case 4:
                return world.pilotCount;
            case 5:
                return world.bagCount;
            case 6:
                return world.flightCount;
            case 7:
                return world.words.count;
            case 8:
                return world.bagsGiven(false);
            case 9:
                return world.spent;
            case 10:
                return numberCount;
            case 11:
                return signCount;
            case 12:
                return world.planesDown();
            default:
                return NONE;
        }
    }

    public int of(int plane, int what) throws NoSuchElementException {
        if (!isPlane(plane)) {
            throw new NoSuchElementException("no such plane");
        }
        Plane its = world.planes[plane];
        switch (what) {
            case 0:
                return its.field;
            case 1:
                return its.leg;
            case 2:
                return its.mile;
            case 3:
                return its.down ? 1 : 0;
            case 4:
                return its.hurt;
            case 5:
                return its.used;
            case 6:
                return its.tank;
            case 7:
                return its.ready;
            case 8:
                return world.weightOn(plane);
            case 9:
                return its.pilot;
            case 10:
                return its.isAloft() ? land.legs[its.leg].goal(its.forward) : NONE;
            default:
                throw new NoSuchElementException("no such what");
        }
    }

    public int who(int pilot, int what) throws NoSuchElementException {
        if (!isPilot(pilot)) {
            throw new NoSuchElementException("no such pilot");
        }
        Pilot asked = world.pilots[pilot];
        switch (what) {
            case 0:
                return asked.field;
            case 1:
                return asked.plane;
            case 2:
                return asked.flown;
            case 3:
                return asked.knows;
            default:
                throw new NoSuchElementException("no such what");
        }
    }

    public int where(int bag, int what) throws NoSuchElementException {
        if (!isBag(bag)) {
            throw new NoSuchElementException("no such bag");
        }
        Bag asked = world.bags[bag];
        switch (what) {
            case 0:
                return asked.field;
            case 1:
                return asked.plane;
            case 2:
                return asked.trainAt;
            case 3:
                return asked.given;
            case 4:
                return asked.given == NONE ? NONE : asked.late();
            case 5:
                return world.payByDay(asked);
            default:
                throw new NoSuchElementException("no such what");
        }
    }

    public int flown(int flight, int what) {
        if (!isFlight(flight)) {
            return NONE;
        }
        Flight asked = world.flights[flight];
        switch (what) {
            case 0:
                return asked.state;
            case 1:
                return asked.started;
            case 2:
                return asked.ended;
            default:
                return NONE;
        }
    }

    // ---- a letter's way, pay

    public int lead(int bag) {
        if (!isBag(bag)) {
            return NONE;
        }
        Bag asked = world.bags[bag];
        numberCount = 2 * asked.stepCount;
        System.arraycopy(asked.steps, 0, numbers, 0, numberCount);
        return asked.stepCount;
    }

    public int judge(int law) {
        if (!within(law, 0, world.laws.count - 1)) {
            return NONE;
        }
        int sum = 0;
        for (int i = 0; i < world.bagCount; i++) {
            sum += world.payBy(law, world.bags[i]);
        }
        return sum;
    }

    public int coin() {
        return world.coinNow();
    }

    // ---- down

    public int find(int plane) {
        if (!isDown(plane)) {
            return NONE;
        }
        Plane found = world.planes[plane];
        int field = land.legs[found.leg].nearer(found.mile);
        found.lookCount = 0;
        world.unload(plane, field);
        return field;
    }

    public int look(int plane, int cell, int sight) {
        if (!isCell(plane, cell) || !within(sight, 1, 99)) {
            return NONE;
        }
        Plane sought = world.planes[plane];
        if (sought.lookCount >= Plane.MOST_LOOKS) {
            return NONE;
        }
        return sought.addLook(cell, sight);
    }

    public long chance(int plane, int cell, int what) throws NoSuchElementException {
        if (!isCell(plane, cell) || !within(what, 0, 1)) {
            throw new NoSuchElementException("not down, or no such cell or what");
        }
        int cells = weighCells(plane);
        long sum = 0;
        for (int i = 0; i < cells; i++) {
            sum += weights[i];
        }
        long common = commonDivisor(sum, weights[cell]);
        if (common <= 0) {
            return what;
        }
        return (what == 0 ? weights[cell] : sum) / common;
    }

    public int lanes(int plane, int p, int q) {
        if (!isDown(plane) || !within(p, 1, 99) || !within(q, 1, 99)) {
            return NONE;
        }
        int cells = weighCells(plane);
        int best = NONE;
        long most = -1;
        for (int i = 0; i < cells; i++) {
            for (int j = 0; j < cells; j++) {
                long seen = p * weights[i] + q * weights[j];
                if (i != j && seen > most) {
                    most = seen;
                    best = 100 * i + j;
                }
            }
        }
        return best;
    }

    private int weighCells(int plane) {
        Plane sought = world.planes[plane];
        Leg leg = land.legs[sought.leg];
        boolean fromFirst = world.flights[sought.flight].from == leg.first;
        sought.weigh(leg, fromFirst, weights);
        return leg.cellCount();
    }

    // ---- spares

    public int needs() {
        return depot.listNeeding(world);
    }

    public int send() {
        int sum = depot.share(world);
        for (int i = 0; i < depot.count; i++) {
            numbers[i] = depot.from[i];
            if (depot.from[i] != NONE) {
                world.renew(depot.needing[i], depot.from[i]);
            }
        }
        numberCount = depot.count;
        return sum;
    }

    // ---- plans

    public int plan(int n) {
        if (!mayTry(n)) {
            return NONE;
        }
        int[] open = new int[MOST_PLANNED];
        int openCount = world.listWaiting(open);
        int best = 0;
        int most = 0;
        world.keep();
        for (int bits = 0; bits < 1 << openCount; bits++) {
            world.giveUpOthers(open, openCount, bits);
            world.pass(n);
            int gain = world.coinNow();
            world.giveBack();
            boolean fewer = gain == most && Integer.bitCount(bits) < Integer.bitCount(best);
            if (bits == 0 || gain > most || fewer) {
                best = bits;
                most = gain;
            }
        }
        numbers[0] = best;
        numberCount = 1;
        return most;
    }

    public int lamps(int k, int n) {
        int dark = land.darkFields();
        if (!mayTry(n) || !within(k, 0, 2) || Integer.bitCount(dark) < k) {
            return NONE;
        }
        int best = 0;
        int most = NONE;
        int mostGain = 0;
        world.keep();
        // the first field is the highest bit: sets of one size from the greatest down are their rows from the first on
        for (int set = Land.ALL_FIELDS; set >= 0; set--) {
            if (Integer.bitCount(set) == k && (set & dark) == set) {
                land.light(set, true);
                world.pass(n);
                int inTime = world.bagsGiven(true);
                int gain = world.coinNow();
                world.giveBack();
                land.light(set, false);
                if (inTime > most || (inTime == most && gain > mostGain)) {
                    best = set;
                    most = inTime;
                    mostGain = gain;
                }
            }
        }
        numberCount = land.listFields(best, numbers);
        return most;
    }

    public int tried(int n) {
        if (!mayTry(n)) {
            return NONE;
        }
        world.keep();
        world.pass(n);
        int gain = world.coinNow();
        world.giveBack();
        return gain;
    }

    public int row(int i) throws NoSuchElementException {
        if (!within(i, 0, numberCount - 1)) {
            throw new NoSuchElementException("no such number of the row");
        }
        return numbers[i];
    }

    // ---- what is there

    private boolean mayTry(int n) {
        return within(n, 0, MOST_TRIED) && world.now + n <= LAST_QUARTER;
    }

    private boolean isField(int field) {
        return within(field, 0, land.fieldCount - 1);
    }

    private boolean isLeg(int leg) {
        return within(leg, 0, land.legCount - 1);
    }

    private boolean isPlane(int plane) {
        return within(plane, 0, world.planeCount - 1);
    }

    private boolean isPilot(int pilot) {
        return within(pilot, 0, world.pilotCount - 1);
    }

    private boolean isBag(int bag) {
        return within(bag, 0, world.bagCount - 1);
    }

    private boolean isFlight(int flight) {
        return within(flight, 0, world.flightCount - 1);
    }

    private boolean isDown(int plane) {
        return isPlane(plane) && world.planes[plane].down;
    }

    private boolean isCell(int plane, int cell) {
        return isDown(plane) && within(cell, 0, land.legs[world.planes[plane].leg].cellCount() - 1);
    }

    private static boolean isQuarter(int quarter) {
        return within(quarter, 0, LAST_QUARTER);
    }

    private static boolean isWeather(int cloud, int wind) {
        return within(cloud, 0, 200) && within(wind, -9, 9);
    }

    private static boolean within(int value, int least, int most) {
        return value >= least && value <= most;
    }

    private static int roundUp(int value, int unit) {
        return unit <= 0 ? 0 : (value + unit - 1) / unit;
    }

    private static long commonDivisor(long a, long b) {
        long greater = a;
        long less = b;
        // two numbers of 63 bits need fewer than 100 rounds
        for (int i = 0; i < 100 && less != 0; i++) {
            long rest = greater % less;
            greater = less;
            less = rest;
        }
        return greater;
    }

    /** A way between two fields, with the grounds on which a plane can come down. */
    static final class Leg {
        static final int MOST_GROUNDS = 4;
        private static final int CELL_MILES = 10;

        final int first;
        final int second;
        final int miles;
        final int pass;
        int groundCount;
        private final int[] groundMile = new int[MOST_GROUNDS];
        private final int[] groundRough = new int[MOST_GROUNDS];

        Leg(int first, int second, int miles, int pass) {
            this.first = first;
            this.second = second;
            this.miles = miles;
            this.pass = pass;
        }

        int addGround(int mile, int rough) {
            groundMile[groundCount] = mile;
            groundRough[groundCount] = rough;
            groundCount++;
            return groundCount;
        }

        /** The best ground at most so many miles away: the least rough, then the nearest, then the less mile. */
        int bestGround(int mile, int glide) {
            int best = NONE;
            for (int i = 0; i < groundCount; i++) {
                if (Math.abs(groundMile[i] - mile) <= glide && (best == NONE || isBetter(i, best, mile))) {
                    best = i;
                }
            }
            return best;
        }

        private boolean isBetter(int i, int than, int mile) {
            if (groundRough[i] != groundRough[than]) {
                return groundRough[i] < groundRough[than];
            }
            int away = Math.abs(groundMile[i] - mile);
            int awayThan = Math.abs(groundMile[than] - mile);
            return away < awayThan || (away == awayThan && groundMile[i] < groundMile[than]);
        }

        int mileOf(int ground) {
            return within(ground, 0, groundCount - 1) ? groundMile[ground] : NONE;
        }

        int roughOf(int ground) {
            return within(ground, 0, groundCount - 1) ? groundRough[ground] : NONE;
        }

        boolean touches(int field) {
            return field == first || field == second;
        }

        int goal(boolean forward) {
            return forward ? second : first;
        }

        int nearer(int mile) {
            return mile <= miles - mile ? first : second;
        }

        int toGo(int mile, boolean forward) {
            return forward ? miles - mile : mile;
        }

        int cellCount() {
            return miles / CELL_MILES + 1;
        }

        int cellAt(int mile) {
            return mile / CELL_MILES;
        }
    }

    /** Fields, legs, how far it is from field to field, and the weather that was told. */
    static final class Land {
        static final int NO_WAY = 1000000;
        static final int MOST_TOLD = 60;
        static final int ALL_FIELDS = (1 << MOST_FIELDS) - 1;
        private static final int CLEAR = 200;

        final int[] heights = new int[MOST_FIELDS];
        final boolean[] lit = new boolean[MOST_FIELDS];
        final int[] spares = new int[MOST_FIELDS];
        int fieldCount;
        final Leg[] legs = new Leg[MOST_LEGS];
        int legCount;
        int told;
        private final int[] between = new int[MOST_FIELDS * MOST_FIELDS];
        private final int[] toldLeg = new int[MOST_TOLD];
        private final int[] toldQuarter = new int[MOST_TOLD];
        private final int[] toldCloud = new int[MOST_TOLD];
        private final int[] toldWind = new int[MOST_TOLD];

        Land() {
            for (int i = 0; i < between.length; i++) {
                between[i] = i / MOST_FIELDS == i % MOST_FIELDS ? 0 : NO_WAY;
            }
        }

        int addField(int height, boolean lamp, int spare) {
            heights[fieldCount] = height;
            lit[fieldCount] = lamp;
            spares[fieldCount] = spare;
            return fieldCount++;
        }

        int addLeg(int a, int b, int miles, int pass) {
            legs[legCount] = new Leg(a, b, miles, pass);
            for (int i = 0; i < MOST_FIELDS; i++) {
                for (int j = 0; j < MOST_FIELDS; j++) {
                    int over = milesBetween(i, a) + miles + milesBetween(b, j);
                    int back = milesBetween(i, b) + miles + milesBetween(a, j);
                    int least = Math.min(milesBetween(i, j), Math.min(over, back));
                    between[i * MOST_FIELDS + j] = least;
                }
            }
            return legCount++;
        }

        /** The least sum of miles over legs; NO_WAY or more where there is none. */
        int milesBetween(int a, int b) {
            return between[a * MOST_FIELDS + b];
        }

        int tell(int leg, int quarter, int cloud, int wind) {
            toldLeg[told] = leg;
            toldQuarter[told] = quarter;
            toldCloud[told] = cloud;
            toldWind[told] = wind;
            told++;
            return told;
        }

        int cloudAt(int leg, int quarter) {
            int at = toldFor(leg, quarter);
            return at == NONE ? CLEAR : toldCloud[at];
        }

        int windAt(int leg, int quarter) {
            int at = toldFor(leg, quarter);
            return at == NONE ? 0 : toldWind[at];
        }

        private int toldFor(int leg, int quarter) {
            int best = NONE;
            for (int i = 0; i < told; i++) {
                boolean fits = toldLeg[i] == leg && toldQuarter[i] <= quarter;
                if (fits && (best == NONE || toldQuarter[i] >= toldQuarter[best])) {
                    best = i;
                }
            }
            return best;
        }

        private static int bitOf(int field) {
            return 1 << (MOST_FIELDS - 1 - field);
        }

        /** The fields without a lamp as bits, the first field being the highest one. */
        int darkFields() {
            int dark = 0;
            for (int i = 0; i < fieldCount; i++) {
                if (!lit[i]) {
                    dark |= bitOf(i);
                }
            }
            return dark;
        }

        void light(int bits, boolean is) {
            for (int i = 0; i < fieldCount; i++) {
                if ((bits & bitOf(i)) != 0) {
                    lit[i] = is;
                }
            }
        }

        int listFields(int bits, int[] into) {
            int listed = 0;
            for (int i = 0; i < fieldCount && listed < into.length; i++) {
                if ((bits & bitOf(i)) != 0) {
                    into[listed] = i;
                    listed++;
                }
            }
            return listed;
        }
    }

    /** Words of weather: each has come to one field at a quarter, and comes to all others later. */
    static final class Words {
        static final int MOST = 120;

        int lag = 4;
        int count;
        final int[] seen = new int[MOST];
        final int[] cloud = new int[MOST];
        final int[] wind = new int[MOST];
        private final int[] legs = new int[MOST];
        private final int[] fields = new int[MOST];
        private final int[] cameAt = new int[MOST];
        private final int[] elsewhereAt = new int[MOST];

        /** A word that comes when all places are taken is lost. */
        void come(int field, int now, int leg, int seenAt, int cloudSeen, int windSeen) {
            if (count >= MOST) {
                return;
            }
            fields[count] = field;
            cameAt[count] = now;
            elsewhereAt[count] = now + lag;
            legs[count] = leg;
            seen[count] = seenAt;
            cloud[count] = cloudSeen;
            wind[count] = windSeen;
            count++;
        }

        int latest(int field, int leg, int quarter) {
            int best = NONE;
            for (int i = 0; i < count; i++) {
                int came = fields[i] == field ? cameAt[i] : elsewhereAt[i];
                if (legs[i] == leg && came <= quarter && (best == NONE || seen[i] >= seen[best])) {
                    best = i;
                }
            }
            return best;
        }
    }

    /**
     * Reads a text sign by sign and tells the first sign that can't stand where it is. On the way it writes codes in
     * which an operator stands behind its things; operators that still wait for a thing are held in a stack, so that
     * no depth of brackets needs a call within a call.
     */
    static final class Parser {
        private static final int LINE = 0;
        private static final int THING = 1;
        private static final int BEHIND_THING = 2;
        private static final int ACT = 3;
        private static final int BEHIND_ACT = 4;

        private static final int MOST_DIGITS = 3;
        private static final String RULE_LETTERS = "cwanlkhfgu";
        private static final String LAW_LETTERS = "wmstd";
        private static final String START_ACTS = "GW";
        private static final String ALOFT_ACTS = "GTL";

        final int[] code = new int[MOST_TEXT];
        int length;
        private final int[] held = new int[MOST_TEXT];
        private int heldCount;
        private final boolean[] compared = new boolean[MOST_TEXT + 1];
        private int depth;
        private int digits;
        private int openChoices;
        private int kind;
        private int state;

        /** The place of the first wrong sign (its end, if it ends too early), or NONE for a good text. */
        int firstWrong(int[] signs, int count, int ofKind) {
            begin(ofKind);
            int upTo = Math.min(count, Math.min(MOST_TEXT, signs.length));
            for (int i = 0; i < upTo; i++) {
                if (!takes(signs[i])) {
                    return i;
                }
            }
            if (count > upTo || !mayEnd()) {
                return upTo;
            }
            releaseDownTo(Texts.STRENGTH_OR);
            closeChoices();
            return NONE;
        }

        private void begin(int ofKind) {
            kind = ofKind;
            state = ofKind == KIND_LAW ? THING : LINE;
            length = 0;
            heldCount = 0;
            depth = 0;
            digits = 0;
            openChoices = 0;
            compared[0] = false;
        }

        private boolean mayEnd() {
            if (kind == KIND_LAW) {
                return state == BEHIND_THING && depth == 0 && openChoices == 0;
            }
            return state == BEHIND_ACT;
        }

        private boolean takes(int sign) {
            switch (state) {
                case LINE:
                    return sign == ':' ? takesEmptyCondition() : takesThing(sign);
                case THING:
                    return takesThing(sign);
                case BEHIND_THING:
                    return takesBehindThing(sign);
                case ACT:
                    return takesAct(sign);
                default:
                    state = LINE;
                    return sign == ';';
            }
        }

        private boolean takesEmptyCondition() {
            write(1);
            state = ACT;
            return true;
        }

        private boolean takesThing(int sign) {
            String letters = kind == KIND_LAW ? LAW_LETTERS : RULE_LETTERS;
            if (isDigit(sign)) {
                write(sign - '0');
                digits = 1;
                state = BEHIND_THING;
            } else if (letters.indexOf((char) sign) >= 0) {
                write(Texts.LETTERS + sign - 'a');
                takeNoDigits();
                state = BEHIND_THING;
            } else if (sign == '!' || sign == '-') {
                hold(sign == '!' ? Texts.NOT : Texts.NEGATE);
                state = THING;
            } else if (sign == '(' && depth < MOST_TEXT) {
                hold('(');
                depth++;
                compared[depth] = false;
                state = THING;
            } else {
                return false;
            }
            return true;
        }

        private boolean takesBehindThing(int sign) {
            if (isDigit(sign)) {
                return takesNextDigit(sign - '0');
            }
            if (sign == ')') {
                return takesClose();
            }
            if (sign == ':' || sign == '?') {
                return depth == 0 && (kind == KIND_LAW ? takesChoice(sign) : takesConditionEnd(sign));
            }
            return takesOperator(sign);
        }

        private boolean takesNextDigit(int digit) {
            if (digits >= MOST_DIGITS || length < 1) {
                return false;
            }
            code[length - 1] = code[length - 1] * 10 + digit;
            digits++;
            return true;
        }

        /** Behind a letter or a bracket a digit is as wrong as a fourth one is behind three. */
        private void takeNoDigits() {
            digits = MOST_DIGITS;
        }

        private boolean takesClose() {
            if (depth == 0) {
                return false;
            }
            releaseDownTo(Texts.STRENGTH_OR);
            drop();
            depth--;
            takeNoDigits();
            return true;
        }

        private boolean takesConditionEnd(int sign) {
            if (sign != ':') {
                return false;
            }
            releaseDownTo(Texts.STRENGTH_OR);
            compared[0] = false;
            state = ACT;
            return true;
        }

        private boolean takesChoice(int sign) {
            if (sign == ':' && openChoices == 0) {
                return false;
            }
            releaseDownTo(Texts.STRENGTH_OR);
            if (sign == '?') {
                openChoices++;
            } else {
                closeChoices();
                drop();
                openChoices--;
            }
            hold(sign);
            compared[0] = false;
            state = THING;
            return true;
        }

        private boolean takesOperator(int sign) {
            int strength = strengthOf(sign);
            if (strength == 0 || strength > Texts.STRENGTH_TIMES) {
                return false;
            }
            boolean compares = strength == Texts.STRENGTH_COMPARE;
            if (compares && compared[depth]) {
                return false;
            }
            releaseDownTo(strength);
            if (strength <= Texts.STRENGTH_COMPARE) {
                compared[depth] = compares;
            }
            hold(sign);
            state = THING;
            return true;
        }

        private boolean takesAct(int sign) {
            String acts = kind == KIND_START ? START_ACTS : ALOFT_ACTS;
            if (acts.indexOf((char) sign) < 0) {
                return false;
            }
            write(Texts.ACTS + sign);
            state = BEHIND_ACT;
            return true;
        }

        /** Held operators that bind as strongly or more have both their things now. */
        private void releaseDownTo(int strength) {
            for (int i = heldCount - 1; i >= 0 && strengthOf(held[i]) >= strength; i--) {
                write(Texts.OPERATORS + held[i]);
                heldCount = i;
            }
        }

        /** Choices of which the last part stands are written; they are held as : signs. */
        private void closeChoices() {
            for (int i = heldCount - 1; i >= 0 && held[i] == ':'; i--) {
                write(Texts.OPERATORS + Texts.CHOOSE);
                heldCount = i;
            }
        }

        private void hold(int sign) {
            if (heldCount < held.length) {
                held[heldCount] = sign;
                heldCount++;
            }
        }

        private void drop() {
            if (heldCount > 0) {
                heldCount--;
            }
        }

        private void write(int what) {
            if (length < code.length) {
                code[length] = what;
                length++;
            }
        }

        private static boolean isDigit(int sign) {
            return sign >= '0' && sign <= '9';
        }

        private static int strengthOf(int sign) {
            switch (sign) {
                case '|':
                    return Texts.STRENGTH_OR;
                case '&':
                    return 2;
                case '<':
                case '>':
                case '=':
                    return Texts.STRENGTH_COMPARE;
                case '+':
                case '-':
                    return 4;
                case '*':
                    return Texts.STRENGTH_TIMES;
                case Texts.NOT:
                case Texts.NEGATE:
                    return 6;
                default:
                    return 0;
            }
        }
    }

    /** Texts in force from a time on, as codes, and the machine that works them out. */
    static final class Texts {
        static final int LETTERS = 1000;
        static final int OPERATORS = 2000;
        static final int ACTS = 3000;
        static final int NOT = '!';
        static final int NEGATE = '~';
        static final int CHOOSE = '?';
        static final int STRENGTH_OR = 1;
        static final int STRENGTH_COMPARE = 3;
        static final int STRENGTH_TIMES = 5;
        static final int NO_LINE = -2;
        static final int ALPHABET = 26;

        int count;
        /** The line that told the latest act. */
        int line = NO_LINE;
        final int[] letters = new int[ALPHABET];
        private final int[] kinds;
        private final int[] froms;
        private final int[] lengths;
        private final int[] codes;
        private final int[] stack = new int[MOST_TEXT];

        Texts(int most) {
            kinds = new int[most];
            froms = new int[most];
            lengths = new int[most];
            codes = new int[most * MOST_TEXT];
        }

        boolean isFull() {
            return count >= kinds.length;
        }

        int add(int kind, int from, int[] code, int length) {
            kinds[count] = kind;
            froms[count] = from;
            lengths[count] = length;
            System.arraycopy(code, 0, codes, count * MOST_TEXT, length);
            count++;
            return count;
        }

        int inForce(int kind, int time) {
            int best = NONE;
            for (int i = 0; i < count; i++) {
                boolean fits = kinds[i] == kind && froms[i] <= time;
                if (fits && (best == NONE || froms[i] >= froms[best])) {
                    best = i;
                }
            }
            return best;
        }

        void put(char letter, int value) {
            int at = letter - 'a';
            if (at >= 0 && at < ALPHABET) {
                letters[at] = value;
            }
        }

        /** The act, or the number, that a text gives for the letters; or otherwise, if no text or line does. */
        int run(int which, int otherwise) {
            line = NO_LINE;
            if (!within(which, 0, count - 1)) {
                return otherwise;
            }
            int top = 0;
            int lines = 0;
            for (int i = 0; i < lengths[which]; i++) {
                int code = codes[which * MOST_TEXT + i];
                if (code < ACTS) {
                    top = work(code, top);
                } else if (top > 0 && stack[top - 1] != 0) {
                    line = lines;
                    return code - ACTS;
                } else {
                    top = 0;
                    lines++;
                }
            }
            return top > 0 ? stack[top - 1] : otherwise;
        }

        /** One code's work on the stack: how high it is then. */
        private int work(int code, int top) {
            if (code < OPERATORS) {
                if (top >= stack.length) {
                    return top;
                }
                stack[top] = code < LETTERS ? code : letters[code - LETTERS];
                return top + 1;
            }
            int sign = code - OPERATORS;
            if (sign == NOT || sign == NEGATE) {
                if (top > 0) {
                    stack[top - 1] = sign == NEGATE ? -stack[top - 1] : stack[top - 1] == 0 ? 1 : 0;
                }
                return top;
            }
            if (sign == CHOOSE) {
                if (top > 2) {
                    stack[top - 3] = stack[top - 3] != 0 ? stack[top - 2] : stack[top - 1];
                }
                return top - 2;
            }
            if (top > 1) {
                stack[top - 2] = join(sign, stack[top - 2], stack[top - 1]);
            }
            return top - 1;
        }

        private static int join(int sign, int a, int b) {
            switch (sign) {
                case '|':
                    return a != 0 || b != 0 ? 1 : 0;
                case '&':
                    return a != 0 && b != 0 ? 1 : 0;
                case '<':
                    return a < b ? 1 : 0;
                case '>':
                    return a > b ? 1 : 0;
                case '=':
                    return a == b ? 1 : 0;
                case '+':
                    return a + b;
                case '-':
                    return a - b;
                default:
                    return a * b;
            }
        }
    }

    /** A plane with its engine, and where it is: at a field, aloft on a leg, or down there. */
    static final class Plane {
        static final int MOST_LOOKS = 4;
        private static final int FIRST_DUE = 400;

        final int speed;
        final int lift;
        final int top;
        final int tankSize;
        final boolean gear;
        int used;
        int due = FIRST_DUE;
        int fails;
        int field;
        int leg = NONE;
        int mile = NONE;
        boolean forward;
        boolean down;
        int hurt;
        int ready;
        int tank;
        int pilot = NONE;
        int flight = NONE;
        int lookCount;
        private final int[] looks = new int[2 * MOST_LOOKS];
        private Plane kept;

        Plane(int field, int speed, int lift, int top, int tankSize, boolean gear) {
            this.field = field;
            this.speed = speed;
            this.lift = lift;
            this.top = top;
            this.tankSize = tankSize;
            this.gear = gear;
        }

        boolean isAloft() {
            return field == NONE && !down;
        }

        void takeOff(int flightNumber, Flight its, Leg on) {
            forward = field == on.first;
            leg = its.leg;
            mile = forward ? 0 : on.miles;
            tank = tankSize;
            pilot = its.pilot;
            flight = flightNumber;
            field = NONE;
        }

        void putAt(int where) {
            field = where;
            leg = NONE;
            mile = NONE;
            down = false;
            tank = 0;
            pilot = NONE;
        }

        int addLook(int cell, int sight) {
            looks[2 * lookCount] = cell;
            looks[2 * lookCount + 1] = sight;
            lookCount++;
            return lookCount;
        }

        /** How likely it is in each cell; a hundred times as much for each look, so that all stay whole numbers. */
        void weigh(Leg on, boolean fromFirst, long[] weights) {
            int cells = Math.min(on.cellCount(), weights.length);
            Arrays.fill(weights, 0);
            boolean any = false;
            for (int q = 1; q <= tankSize && speed * q < on.miles; q++) {
                int at = on.cellAt(fromFirst ? speed * q : on.miles - speed * q);
                weights[at]++;
                any = true;
            }
            for (int cell = 0; cell < cells; cell++) {
                long weight = any ? weights[cell] : 1;
                for (int i = 0; i < lookCount; i++) {
                    weight *= looks[2 * i] == cell ? 100 - looks[2 * i + 1] : 100;
                }
                weights[cell] = weight;
            }
        }

        void keep() {
            if (kept == null) {
                kept = new Plane(field, speed, lift, top, tankSize, gear);
            }
            copy(this, kept);
        }

        void giveBack() {
            if (kept != null) {
                copy(kept, this);
            }
        }

        // looks stay as they are: nobody looks while plans are tried
        private static void copy(Plane from, Plane to) {
            to.used = from.used;
            to.fails = from.fails;
            to.field = from.field;
            to.leg = from.leg;
            to.mile = from.mile;
            to.forward = from.forward;
            to.down = from.down;
            to.hurt = from.hurt;
            to.ready = from.ready;
            to.tank = from.tank;
            to.pilot = from.pilot;
            to.flight = from.flight;
        }
    }

    /** A pilot, at a field or with a plane. */
    static final class Pilot {
        int field;
        int plane = NONE;
        int flown;
        int knows;
        private Pilot kept;

        Pilot(int field, int knows) {
            this.field = field;
            this.knows = knows;
        }

        boolean knowsLeg(int leg) {
            return (knows >> leg & 1) == 1;
        }

        void keep() {
            if (kept == null) {
                kept = new Pilot(field, knows);
            }
            copy(this, kept);
        }

        void giveBack() {
            if (kept != null) {
                copy(kept, this);
            }
        }

        private static void copy(Pilot from, Pilot to) {
            to.field = from.field;
            to.plane = from.plane;
            to.flown = from.flown;
        }
    }

    /** A bag of mail, and what it went through: at a field, on a plane, on a train, or given. */
    static final class Bag {
        static final int MOST_STEPS = 16;
        private static final int ON_PLANE = 100;
        private static final int ON_TRAIN = 200;
        private static final int GIVEN = 300;

        final int from;
        final int to;
        final int weight;
        final int kind;
        final int due;
        int field;
        int plane = NONE;
        int trainAt = NONE;
        int given = NONE;
        final int[] steps = new int[2 * MOST_STEPS];
        int stepCount;
        private Bag kept;

        Bag(int from, int to, int weight, int kind, int due) {
            this.from = from;
            this.to = to;
            this.weight = weight;
            this.kind = kind;
            this.due = due;
            field = from;
        }

        boolean isAheadOf(Bag other) {
            return kind < other.kind || (kind == other.kind && due < other.due);
        }

        int late() {
            return Math.max(0, given - due);
        }

        void putAt(int where, int now) {
            plane = NONE;
            trainAt = NONE;
            if (where == to) {
                field = NONE;
                given = now;
                addStep(now, GIVEN);
            } else {
                field = where;
                addStep(now, where);
            }
        }

        void embark(int on, int now) {
            field = NONE;
            plane = on;
            addStep(now, ON_PLANE + on);
        }

        void entrain(int now, int comesAt) {
            field = NONE;
            trainAt = comesAt;
            addStep(now, ON_TRAIN);
        }

        void addStep(int now, int place) {
            if (stepCount < MOST_STEPS) {
                steps[2 * stepCount] = now;
                steps[2 * stepCount + 1] = place;
                stepCount++;
            }
        }

        void keep() {
            if (kept == null) {
                kept = new Bag(from, to, weight, kind, due);
            }
            copy(this, kept);
        }

        void giveBack() {
            if (kept != null) {
                copy(kept, this);
            }
        }

        // steps are only ever added, so their count is enough
        private static void copy(Bag from, Bag to) {
            to.field = from.field;
            to.plane = from.plane;
            to.trainAt = from.trainAt;
            to.given = from.given;
            to.stepCount = from.stepCount;
        }
    }

    /** A plane, a pilot and a leg to fly from a quarter on. */
    static final class Flight {
        static final int WAITS = 0;
        static final int FLIES = 1;
        static final int DONE = 2;
        static final int GIVEN_UP = 3;
        static final int FORCED_DOWN = 4;
        static final int NOT_ASKED = -3;

        final int plane;
        final int pilot;
        final int leg;
        final int quarter;
        int state = WAITS;
        int started = NONE;
        int ended = NONE;
        int from = NONE;
        int lineAtStart = NOT_ASKED;
        int lineAloft = NOT_ASKED;
        private Flight kept;

        Flight(int plane, int pilot, int leg, int quarter) {
            this.plane = plane;
            this.pilot = pilot;
            this.leg = leg;
            this.quarter = quarter;
        }

        boolean waits() {
            return state == WAITS;
        }

        void begin(int now, int field) {
            state = FLIES;
            started = now;
            from = field;
        }

        void finish(int as, int now) {
            state = as;
            ended = now;
        }

        void keep() {
            if (kept == null) {
                kept = new Flight(plane, pilot, leg, quarter);
            }
            copy(this, kept);
        }

        void giveBack() {
            if (kept != null) {
                copy(kept, this);
            }
        }

        private static void copy(Flight from, Flight to) {
            to.state = from.state;
            to.started = from.started;
            to.ended = from.ended;
            to.from = from.from;
            to.lineAtStart = from.lineAtStart;
            to.lineAloft = from.lineAloft;
        }
    }

    /** All that goes on from quarter to quarter. */
    static final class World {
        static final int ACT_IS_WAIT = 7;
        private static final int MOST_RULES = 20;
        private static final int MOST_LAWS = 12;
        private static final int WAITS_AT_MOST = 16;
        private static final int WRECKED = 4;
        private static final int NO_WORD_AGE = 999;

        final Land land;
        final Words words = new Words();
        final Texts rules = new Texts(MOST_RULES);
        final Texts laws = new Texts(MOST_LAWS);
        final Plane[] planes = new Plane[MOST_PLANES];
        int planeCount;
        final Pilot[] pilots = new Pilot[MOST_PILOTS];
        int pilotCount;
        final Bag[] bags = new Bag[MOST_BAGS];
        int bagCount;
        /** Bags in the order in which they are taken: by class, due and number. */
        private final int[] order = new int[MOST_BAGS];
        final Flight[] flights = new Flight[MOST_FLIGHTS];
        int flightCount;
        int now;
        int spent;
        int glide = 6;
        int rate = 1;
        private int keptNow;
        private int keptSpent;
        private int keptWords;

        World(Land land) {
            this.land = land;
        }

        int addBag(Bag bag) {
            bag.addStep(now, bag.from);
            bags[bagCount] = bag;
            int at = bagCount;
            while (at > 0 && bag.isAheadOf(bags[order[at - 1]])) {
                order[at] = order[at - 1];
                at--;
            }
            order[at] = bagCount;
            return bagCount++;
        }

        // -- quarters

        void pass(int n) {
            int end = now + n;
            for (int i = 0; i < n && now < end; i++) {
                now = nextBusy(end);
                if (now == end) {
                    return;
                }
                beginQuarter();
                for (int k = 0; k < flightCount; k++) {
                    if (flights[k].waits() && flights[k].quarter <= now) {
                        tryStart(k);
                    }
                }
                for (int k = 0; k < planeCount; k++) {
                    if (planes[k].isAloft()) {
                        fly(k);
                    }
                }
                now++;
            }
        }

        /** Quarters in which nothing can happen are skipped, which makes trying out cheap. */
        private int nextBusy(int end) {
            int next = Math.min(end, roundUp(now, QUARTERS_A_DAY) * QUARTERS_A_DAY);
            for (int i = 0; i < planeCount; i++) {
                if (planes[i].isAloft()) {
                    return now;
                }
            }
            for (int i = 0; i < flightCount; i++) {
                if (flights[i].waits()) {
                    next = Math.min(next, flights[i].quarter);
                }
            }
            for (int i = 0; i < bagCount; i++) {
                if (bags[i].trainAt != NONE) {
                    next = Math.min(next, bags[i].trainAt);
                }
            }
            return Math.max(next, now);
        }

        /** Pilots begin a new day, and trains come. */
        private void beginQuarter() {
            if (now % QUARTERS_A_DAY == 0) {
                for (int i = 0; i < pilotCount; i++) {
                    pilots[i].flown = 0;
                }
            }
            for (int i = 0; i < bagCount; i++) {
                if (bags[i].trainAt == now) {
                    bags[i].putAt(bags[i].to, now);
                }
            }
        }

        private boolean isNight() {
            int ofDay = now % QUARTERS_A_DAY;
            return ofDay < 24 || ofDay >= 72;
        }

        // -- start

        private void tryStart(int number) {
            Flight flight = flights[number];
            if (flight.quarter <= now - WAITS_AT_MOST) {
                flight.finish(Flight.GIVEN_UP, now);
                return;
            }
            if (hindrance(flight) != 0) {
                return;
            }
            int act = startAct(flight);
            flight.lineAtStart = rules.line;
            if (act == 'G') {
                start(number);
            }
        }

        /** Why a flight can't start, whatever the rules say: 1 to 6; or 0. */
        int hindrance(Flight flight) {
            Plane plane = planes[flight.plane];
            Leg leg = land.legs[flight.leg];
            if (plane.field == NONE || plane.field != pilots[flight.pilot].field || !leg.touches(plane.field)) {
                return 1;
            }
            if (plane.hurt != 0) {
                return 2;
            }
            if (plane.ready > now) {
                return 3;
            }
            if (plane.used >= plane.due) {
                return 4;
            }
            if (isNight() && !plane.gear) {
                return 5;
            }
            return carriedAtMost(plane, leg) < 0 ? 6 : 0;
        }

        private int carriedAtMost(Plane plane, Leg leg) {
            int fromField = plane.lift - 5 * land.heights[plane.field];
            int overPass = 50 * (plane.top - plane.used / 20 - leg.pass);
            return Math.min(fromField, overPass);
        }

        int startAct(Flight flight) {
            Plane plane = planes[flight.plane];
            Leg leg = land.legs[flight.leg];
            boolean forward = plane.field == leg.first;
            int word = words.latest(plane.field, flight.leg, now);
            boolean none = word == NONE;
            int wind = none ? 0 : words.wind[word];
            rules.put('c', none ? 0 : words.cloud[word] - leg.pass);
            rules.put('w', forward ? wind : -wind);
            rules.put('a', none ? NO_WORD_AGE : now - words.seen[word]);
            rules.put('f', plane.tankSize);
            rules.put('g', roundUp(leg.miles, plane.speed));
            putCommonLetters(plane, flight, leg.goal(forward));
            return rules.run(rules.inForce(KIND_START, now), 'W');
        }

        private void putCommonLetters(Plane plane, Flight flight, int goal) {
            Pilot pilot = pilots[flight.pilot];
            rules.put('n', isNight() ? 1 : 0);
            rules.put('l', land.lit[goal] ? 1 : 0);
            rules.put('k', pilot.knowsLeg(flight.leg) ? 1 : 0);
            rules.put('h', pilot.flown);
            rules.put('u', plane.due - plane.used);
        }

        private void start(int number) {
            Flight flight = flights[number];
            Plane plane = planes[flight.plane];
            Pilot pilot = pilots[flight.pilot];
            Leg leg = land.legs[flight.leg];
            int from = plane.field;
            takeBags(flight.plane, leg);
            flight.begin(now, from);
            plane.takeOff(number, flight, leg);
            pilot.field = NONE;
            pilot.plane = flight.plane;
        }

        private void takeBags(int number, Leg leg) {
            Plane plane = planes[number];
            int other = leg.goal(plane.field == leg.first);
            int room = carriedAtMost(plane, leg);
            for (int i = 0; i < bagCount; i++) {
                Bag bag = bags[order[i]];
                if (bag.field == plane.field && bag.weight <= room && goesBy(bag, leg, other)) {
                    bag.embark(number, now);
                    room -= bag.weight;
                }
            }
        }

        private boolean goesBy(Bag bag, Leg leg, int other) {
            int left = land.milesBetween(other, bag.to);
            return other == bag.to || left + leg.miles == land.milesBetween(bag.field, bag.to);
        }

        // -- aloft

        private void fly(int number) {
            Plane plane = planes[number];
            Flight flight = flights[plane.flight];
            Leg leg = land.legs[plane.leg];
            Pilot pilot = pilots[plane.pilot];
            plane.used++;
            pilot.flown++;
            plane.tank--;
            spent += rate;
            if ((plane.fails != 0 && plane.used == plane.fails) || plane.tank < 0) {
                forceDown(plane);
                return;
            }
            int act = aloftAct(plane);
            flight.lineAloft = rules.line;
            if (act == 'T') {
                plane.forward = !plane.forward;
            }
            boolean blind = land.cloudAt(plane.leg, now) < leg.pass && !pilot.knowsLeg(plane.leg);
            if (act == 'L' || blind) {
                forceDown(plane);
            } else if (reachesField(plane)) {
                int field = leg.goal(plane.forward);
                comeIn(plane, field);
                unload(number, field);
            }
        }

        private int aloftAct(Plane plane) {
            Leg leg = land.legs[plane.leg];
            rules.put('c', land.cloudAt(plane.leg, now) - leg.pass);
            rules.put('w', windFor(plane));
            rules.put('a', 0);
            rules.put('f', plane.tank);
            rules.put('g', roundUp(leg.toGo(plane.mile, plane.forward), plane.speed));
            putCommonLetters(plane, flights[plane.flight], leg.goal(plane.forward));
            return rules.run(rules.inForce(KIND_ALOFT, now), 'G');
        }

        private int windFor(Plane plane) {
            int wind = land.windAt(plane.leg, now);
            return plane.forward ? wind : -wind;
        }

        /** The plane goes on for a quarter, unless that brings it to a field. */
        private boolean reachesField(Plane plane) {
            int miles = Math.max(1, plane.speed + windFor(plane));
            if (miles >= land.legs[plane.leg].toGo(plane.mile, plane.forward)) {
                return true;
            }
            plane.mile += plane.forward ? miles : -miles;
            return false;
        }

        private void comeIn(Plane plane, int field) {
            int leg = plane.leg;
            if (isNight() && (!land.lit[field] || !plane.gear)) {
                plane.hurt = 1;
            }
            flights[plane.flight].finish(Flight.DONE, now);
            words.come(field, now, leg, now, land.cloudAt(leg, now), land.windAt(leg, now));
        }

        private void forceDown(Plane plane) {
            Leg leg = land.legs[plane.leg];
            int ground = leg.bestGround(plane.mile, glide);
            plane.hurt = WRECKED;
            if (ground != NONE) {
                plane.hurt = leg.roughOf(ground);
                plane.mile = leg.mileOf(ground);
            }
            if (isNight()) {
                plane.hurt++;
            }
            plane.down = true;
            flights[plane.flight].finish(Flight.FORCED_DOWN, now);
        }

        /** A plane with its pilot and bags is at a field from now on. */
        void unload(int number, int field) {
            Plane plane = planes[number];
            if (plane.pilot != NONE) {
                pilots[plane.pilot].field = field;
                pilots[plane.pilot].plane = NONE;
            }
            for (int i = 0; i < bagCount; i++) {
                if (bags[i].plane == number) {
                    bags[i].putAt(field, now);
                }
            }
            plane.putAt(field);
        }

        /** A spare comes from a field to a plane. */
        void renew(int number, int from) {
            Plane plane = planes[number];
            plane.hurt = 0;
            plane.used = 0;
            plane.fails = 0;
            plane.ready = now + Spares.quarters(land, from, plane.field);
            land.spares[from]--;
        }

        // -- sums

        int bagsGiven(boolean inTime) {
            int sum = 0;
            for (int i = 0; i < bagCount; i++) {
                if (bags[i].given != NONE && (!inTime || bags[i].late() == 0)) {
                    sum++;
                }
            }
            return sum;
        }

        int planesDown() {
            int sum = 0;
            for (int i = 0; i < planeCount; i++) {
                sum += planes[i].down ? 1 : 0;
            }
            return sum;
        }

        int weightOn(int plane) {
            int sum = 0;
            for (int i = 0; i < bagCount; i++) {
                sum += bags[i].plane == plane ? bags[i].weight : 0;
            }
            return sum;
        }

        int coinNow() {
            int sum = -spent;
            for (int i = 0; i < bagCount; i++) {
                sum += payByDay(bags[i]);
            }
            return sum;
        }

        int payByDay(Bag bag) {
            return bag.given == NONE ? 0 : payBy(laws.inForce(KIND_LAW, bag.given / QUARTERS_A_DAY), bag);
        }

        int payBy(int law, Bag bag) {
            if (bag.given == NONE) {
                return 0;
            }
            int miles = land.milesBetween(bag.from, bag.to);
            laws.put('w', bag.weight);
            laws.put('m', miles >= Land.NO_WAY ? 0 : miles);
            laws.put('s', bag.kind);
            laws.put('t', bag.late());
            laws.put('d', bag.given / QUARTERS_A_DAY);
            return Math.max(0, laws.run(law, 0));
        }

        // -- trying out

        /** The first flights that wait, as many as there is room for: how many they are. */
        int listWaiting(int[] open) {
            int listed = 0;
            for (int i = 0; i < flightCount && listed < open.length; i++) {
                if (flights[i].waits()) {
                    open[listed] = i;
                    listed++;
                }
            }
            return listed;
        }

        void giveUpOthers(int[] open, int listed, int bits) {
            for (int i = 0; i < listed && i < open.length; i++) {
                if ((bits >> i & 1) == 0) {
                    flights[open[i]].finish(Flight.GIVEN_UP, now);
                }
            }
        }

        void keep() {
            keptNow = now;
            keptSpent = spent;
            keptWords = words.count;
            for (int i = 0; i < planeCount; i++) {
                planes[i].keep();
            }
            for (int i = 0; i < pilotCount; i++) {
                pilots[i].keep();
            }
            for (int i = 0; i < bagCount; i++) {
                bags[i].keep();
            }
            for (int i = 0; i < flightCount; i++) {
                flights[i].keep();
            }
        }

        void giveBack() {
            now = keptNow;
            spent = keptSpent;
            words.count = keptWords;
            for (int i = 0; i < planeCount; i++) {
                planes[i].giveBack();
            }
            for (int i = 0; i < pilotCount; i++) {
                pilots[i].giveBack();
            }
            for (int i = 0; i < bagCount; i++) {
                bags[i].giveBack();
            }
            for (int i = 0; i < flightCount; i++) {
                flights[i].giveBack();
            }
        }
    }

    /**
     * Shares spares among the planes that need one. What a share costs is one number: planes without a spare count
     * most, then quarters, then a digit of base 9 for each plane's field, the first plane's the highest. These are
     * sums over planes, so the least cost for each set of planes served is found spare by spare.
     */
    static final class Spares {
        private static final int MILES_A_QUARTER = 8;
        private static final long[] PLACES = {4782969L, 531441L, 59049L, 6561L, 729L, 81L, 9L, 1L};
        private static final int BASE = 9;
        private static final int NO_FIELD = 8;
        private static final long ONE_QUARTER = 43046721L;
        private static final long MOST_QUARTERS = 4096L;
        private static final long UNSERVED = ONE_QUARTER * MOST_QUARTERS;
        private static final long NEVER = 1L << 60;

        final int[] needing = new int[MOST_PLANES];
        final int[] from = new int[MOST_PLANES];
        int count;
        private final long[] prices = new long[MOST_PLANES];
        private final long[] least = new long[1 << MOST_PLANES];

        static int quarters(Land land, int a, int b) {
            return roundUp(land.milesBetween(a, b), MILES_A_QUARTER);
        }

        int listNeeding(World world) {
            count = 0;
            for (int i = 0; i < world.planeCount; i++) {
                Plane plane = world.planes[i];
                boolean worn = plane.hurt != 0 || plane.used >= plane.due;
                if (plane.field != NONE && worn && plane.ready <= world.now) {
                    needing[count] = i;
                    count++;
                }
            }
            return count;
        }

        /** From which field each plane that needs a spare has one, into the row from: the sum of quarters. */
        int share(World world) {
            listNeeding(world);
            Arrays.fill(least, NEVER);
            least[0] = 0;
            for (int field = 0; field < world.land.fieldCount; field++) {
                price(world, field);
                for (int i = 0; i < world.land.spares[field] && i < count; i++) {
                    offer();
                }
            }
            long best = leastOfAll();
            readFields(best);
            return (int) (best / ONE_QUARTER % MOST_QUARTERS);
        }

        // the last place is the lowest digit; places that no plane has are 0
        private void readFields(long cost) {
            long digits = cost;
            for (int i = MOST_PLANES - 1; i >= 0; i--) {
                int field = (int) (digits % BASE);
                from[i] = field == NO_FIELD ? NONE : field;
                digits /= BASE;
            }
        }

        private void price(World world, int field) {
            for (int i = 0; i < count; i++) {
                int at = world.planes[needing[i]].field;
                boolean way = world.land.milesBetween(field, at) < Land.NO_WAY;
                long time = quarters(world.land, field, at) * ONE_QUARTER;
                prices[i] = way ? time + field * PLACES[i] : NEVER;
            }
        }

        /** One spare more at these prices; sets from the greatest down, so that it is not given twice. */
        private void offer() {
            for (int set = (1 << count) - 1; set > 0; set--) {
                for (int i = 0; i < count; i++) {
                    if ((set >> i & 1) == 1) {
                        least[set] = Math.min(least[set], least[set - (1 << i)] + prices[i]);
                    }
                }
            }
        }

        private long leastOfAll() {
            long best = NEVER;
            for (int set = 0; set < 1 << count; set++) {
                long cost = least[set];
                for (int i = 0; i < count; i++) {
                    cost += (set >> i & 1) == 1 ? 0 : UNSERVED + NO_FIELD * PLACES[i];
                }
                best = Math.min(best, cost);
            }
            return best;
        }
    }
}
