import java.util.NoSuchElementException;

/**
 * Every number that a call takes: the last values that are taken and the first that aren't, on both sides, and the
 * ends of int. A refused call answers as it must and leaves all as it was.
 */
public final class RangesTest {
    private interface Call {
        long on(AirMail x, int[] a);
    }

    private static final long THROWN = Long.MIN_VALUE;

    public static void main(String[] args) {
        land();
        fleet();
        texts();
        flights();
        asked();
        searches();
        plans();
        Check.finish();
    }

    private static int[] base(int... a) {
        return a;
    }

    private static long ask(AirMail x, Call call, int[] a) {
        try {
            return call.on(x, a);
        } catch (NoSuchElementException e) {
            return THROWN;
        }
    }

    private static String name(String call, int[] a) {
        return call + java.util.Arrays.toString(a);
    }

    private static int[] with(int[] base, int at, int value) {
        int[] a = base.clone();
        a[at] = value;
        return a;
    }

    /** Argument number at goes from low to high; beyond that the call answers refusal and changes nothing. */
    private static void goes(String name, Call call, int[] base, int at, int low, int high, long refusal) {
        for (int taken : new int[] {low, high}) {
            AirMail x = new AirMail();
            Worlds.busy(x);
            int[] a = with(base, at, taken);
            Check.due(name(name, a) + " is taken", ask(x, call, a) != refusal, true);
        }
        refuses(name, call, base, at, refusal, low - 1, high + 1, Integer.MIN_VALUE, Integer.MAX_VALUE);
    }

    private static void refuses(String name, Call call, int[] base, int at, long refusal, int... values) {
        Twins.alike(name(name, base) + " with a wrong number " + at, Worlds::busy, x -> {
            for (int value : values) {
                int[] a = with(base, at, value);
                Check.due(name(name, a), ask(x, call, a), refusal);
            }
        });
    }

    private static void land() {
        Call field = (x, a) -> x.field(a[0], true, a[1]);
        goes("field", field, base(5, 5), 0, 0, 99, -1);
        goes("field", field, base(5, 5), 1, 0, 9, -1);
        goes("lamp", (x, a) -> x.lamp(a[0], true) ? 1 : 0, base(1), 0, 0, 3, 0);
        goes("lamp off", (x, a) -> x.lamp(a[0], false) ? 1 : 0, base(1), 0, 0, 3, 0);
        Call leg = (x, a) -> x.leg(a[0], a[1], a[2], a[3]);
        goes("leg", leg, base(0, 1, 50, 20), 0, 0, 3, -1);
        goes("leg", leg, base(1, 0, 50, 20), 1, 0, 3, -1);
        refuses("leg", leg, base(1, 0, 50, 20), 1, -1, 1);
        goes("leg", leg, base(0, 1, 50, 20), 2, 10, 400, -1);
        goes("leg", leg, base(0, 1, 50, 20), 3, 0, 150, -1);
        Call ground = (x, a) -> x.ground(a[0], a[1], a[2]);
        goes("ground", ground, base(1, 5, 1), 0, 0, 4, -1);
        goes("ground of leg 0", ground, base(0, 5, 1), 1, 1, 99, -1);
        goes("ground of leg 3", ground, base(3, 5, 1), 1, 1, 39, -1);
        goes("ground", ground, base(1, 5, 1), 2, 0, 3, -1);
        Call far = (x, a) -> x.far(a[0], a[1]);
        goes("far", far, base(1, 2), 0, 0, 3, -1);
        goes("far", far, base(1, 2), 1, 0, 3, -1);
        Call weather = (x, a) -> x.weather(a[0], a[1], a[2], a[3]);
        goes("weather", weather, base(0, 35, 100, 1), 0, 0, 4, -1);
        goes("weather", weather, base(0, 35, 100, 1), 1, 0, 3000, -1);
        goes("weather", weather, base(0, 35, 100, 1), 2, 0, 200, -1);
        goes("weather", weather, base(0, 35, 100, 1), 3, -9, 9, -1);
        Call sky = (x, a) -> x.sky(a[0], a[1], a[2]);
        goes("sky", sky, base(0, 35, 0), 0, 0, 4, THROWN);
        goes("sky", sky, base(0, 35, 0), 1, 0, 3000, THROWN);
        goes("sky", sky, base(0, 35, 0), 2, 0, 1, THROWN);
        Call word = (x, a) -> x.word(a[0], a[1], a[2], a[3], a[4]);
        goes("word", word, base(0, 1, 30, 100, 1), 0, 0, 3, -1);
        goes("word", word, base(0, 1, 30, 100, 1), 1, 0, 4, -1);
        goes("word", word, base(0, 1, 30, 100, 1), 2, 0, Worlds.NOW, -1);
        goes("word", word, base(0, 1, 30, 100, 1), 3, 0, 200, -1);
        goes("word", word, base(0, 1, 30, 100, 1), 4, -9, 9, -1);
        Call heard = (x, a) -> x.heard(a[0], a[1], a[2], a[3]);
        goes("heard", heard, base(1, 0, 34, 0), 0, 0, 3, THROWN);
        goes("heard", heard, base(1, 0, 34, 0), 1, 0, 4, THROWN);
        goes("heard", heard, base(1, 0, 34, 0), 2, 0, 3000, THROWN);
        goes("heard", heard, base(1, 0, 34, 0), 3, 0, 2, THROWN);
        refuses("heard of legs of which no word came", heard, base(1, 0, 34, 0), 1, THROWN, 1, 2);
    }

    private static void fleet() {
        Call plane = (x, a) -> x.plane(a[0], a[1], a[2], a[3], a[4], false);
        int[] usual = base(1, 20, 500, 100, 10);
        goes("plane", plane, usual, 0, 0, 3, -1);
        goes("plane", plane, usual, 1, 5, 60, -1);
        goes("plane", plane, usual, 2, 50, 3000, -1);
        goes("plane", plane, usual, 3, 20, 250, -1);
        goes("plane", plane, usual, 4, 1, 60, -1);
        Call engine = (x, a) -> x.engine(a[0], a[1], a[2], a[3]) ? 1 : 0;
        goes("engine", engine, base(4, 5, 6, 7), 0, 0, 4, 0);
        goes("engine", engine, base(4, 5, 6, 7), 1, 0, 999, 0);
        goes("engine", engine, base(4, 5, 6, 7), 2, 1, 999, 0);
        goes("engine", engine, base(4, 5, 6, 7), 3, 0, 999, 0);
        Call pilot = (x, a) -> x.pilot(a[0], a[1]);
        goes("pilot", pilot, base(1, 5), 0, 0, 3, -1);
        goes("pilot", pilot, base(1, 5), 1, 0, 31, -1);
        Call learns = (x, a) -> x.learns(a[0], a[1]) ? 1 : 0;
        goes("learns", learns, base(1, 1), 0, 0, 4, 0);
        goes("learns", learns, base(1, 1), 1, 0, 4, 0);
        Call bag = (x, a) -> x.bag(a[0], a[1], a[2], a[3], a[4]);
        goes("bag", bag, base(0, 1, 50, 5, 60), 0, 0, 3, -1);
        goes("bag", bag, base(1, 0, 50, 5, 60), 1, 0, 3, -1);
        refuses("bag", bag, base(1, 0, 50, 5, 60), 1, -1, 1);
        goes("bag", bag, base(0, 1, 50, 5, 60), 2, 1, 500, -1);
        goes("bag", bag, base(0, 1, 50, 5, 60), 3, 0, 9, -1);
        goes("bag", bag, base(0, 1, 50, 5, 60), 4, 0, 3000, -1);
        goes("train", (x, a) -> x.train(a[0]), base(2), 0, 0, Worlds.BAGS - 1, -1);
        refuses("train of bags at no field", (x, a) -> x.train(a[0]), base(2), 0, -1, 1, 3, 4, 5);
        Call set = (x, a) -> x.set(a[0], a[1]);
        goes("set", set, base(0, 0), 0, 0, 2, -1);
        goes("set LAG", set, base(0, 1), 1, 0, 20, -1);
        goes("set GLIDE", set, base(1, 1), 1, 0, 50, -1);
        goes("set RATE", set, base(2, 1), 1, 0, 99, -1);
    }

    private static void texts() {
        Call end = (x, a) -> x.end(a[0]) ? 1 : 0;
        goes("end", end, base(1), 0, 0, Worlds.SIGNS, 0);
        for (int kind = 0; kind <= 2; kind++) {
            int most = kind == 2 ? 99 : 3000;
            for (int from : new int[] {0, most}) {
                AirMail x = new AirMail();
                Check.due("kind " + kind + " from " + from, Check.force(x, kind, from, kind == 2 ? "1" : ":G"), 1);
            }
            for (int from : new int[] {-1, most + 1, Integer.MIN_VALUE, Integer.MAX_VALUE}) {
                refusesText(kind, from);
            }
        }
        for (int kind : new int[] {-1, 3, Integer.MIN_VALUE, Integer.MAX_VALUE}) {
            refusesText(kind, 0);
        }
        for (int v : new int[] {Integer.MIN_VALUE, -1, 0, Integer.MAX_VALUE}) {
            AirMail x = new AirMail();
            Check.due("sign takes any number", x.sign(v), 4);
        }
    }

    /** THE TEXT, which is c:G, is empty then; all else is as it was. */
    private static void refusesText(int kind, int from) {
        Twins.alike("force(" + kind + ", " + from + ")", Worlds::busy,
            x -> Check.due("force(" + kind + ", " + from + ")", x.force(kind, from), -100), x -> x.end(0));
    }

    private static void flights() {
        Call flight = (x, a) -> x.flight(a[0], a[1], a[2], a[3]);
        goes("flight", flight, base(0, 0, 0, 50), 0, 0, 4, -1);
        goes("flight", flight, base(0, 0, 0, 50), 1, 0, 4, -1);
        goes("flight", flight, base(0, 0, 0, 50), 2, 0, 4, -1);
        goes("flight", flight, base(0, 0, 0, 50), 3, Worlds.NOW, 3000, -1);
        Call cancel = (x, a) -> x.cancel(a[0]) ? 1 : 0;
        goes("cancel", cancel, base(0), 0, 0, 6, 0);
        refuses("cancel of what doesn't wait", cancel, base(0), 0, 0, 1, 2, 3, 5);
        Call step = (x, a) -> x.step(a[0]);
        goes("step", step, base(0), 0, 0, 400, -1);
        Call may = (x, a) -> x.may(a[0]);
        goes("may", may, base(0), 0, 0, 6, -1);
        refuses("may of what doesn't wait", may, base(0), 0, -1, 1, 2, 3, 5);
        Call why = (x, a) -> x.why(a[0], a[1]);
        goes("why", why, base(0, 0), 0, 0, 6, -1);
        goes("why", why, base(0, 0), 1, 0, 1, -1);
    }

    private static void asked() {
        goes("count", (x, a) -> x.count(a[0]), base(0), 0, 0, 12, -1);
        Call of = (x, a) -> x.of(a[0], a[1]);
        goes("of", of, base(0, 0), 0, 0, 4, THROWN);
        goes("of", of, base(0, 0), 1, 0, 10, THROWN);
        Call who = (x, a) -> x.who(a[0], a[1]);
        goes("who", who, base(0, 0), 0, 0, 4, THROWN);
        goes("who", who, base(0, 0), 1, 0, 3, THROWN);
        Call where = (x, a) -> x.where(a[0], a[1]);
        goes("where", where, base(0, 0), 0, 0, 6, THROWN);
        goes("where", where, base(0, 0), 1, 0, 5, THROWN);
        Call flown = (x, a) -> x.flown(a[0], a[1]);
        goes("flown", flown, base(1, 0), 0, 0, 6, -1);
        goes("flown", flown, base(1, 0), 1, 0, 2, -1);
        goes("lead", (x, a) -> x.lead(a[0]), base(0), 0, 0, 6, -1);
        goes("judge", (x, a) -> x.judge(a[0]), base(0), 0, 0, 1, -1);
        goes("row", (x, a) -> x.row(a[0]), base(0), 0, 0, Worlds.ROW - 1, THROWN);
    }

    private static void searches() {
        int down = Worlds.DOWN;
        Call find = (x, a) -> x.find(a[0]);
        Call look = (x, a) -> x.look(a[0], a[1], a[2]);
        Call chance = (x, a) -> x.chance(a[0], a[1], a[2]);
        Call lanes = (x, a) -> x.lanes(a[0], a[1], a[2]);
        int[] notDown = {-1, 0, 2, 3, 4, 5, Integer.MIN_VALUE, Integer.MAX_VALUE};
        refuses("find", find, base(down), 0, -1, notDown);
        refuses("look", look, base(down, 0, 50), 0, -1, notDown);
        refuses("chance", chance, base(down, 0, 0), 0, THROWN, notDown);
        refuses("lanes", lanes, base(down, 50, 50), 0, -1, notDown);
        // leg 4 has 120 miles: cells 0 .. 12
        goes("look", look, base(down, 0, 50), 1, 0, 12, -1);
        goes("look", look, base(down, 0, 50), 2, 1, 99, -1);
        goes("chance", chance, base(down, 0, 0), 1, 0, 12, THROWN);
        goes("chance", chance, base(down, 0, 0), 2, 0, 1, THROWN);
        goes("lanes", lanes, base(down, 50, 50), 1, 1, 99, -1);
        goes("lanes", lanes, base(down, 50, 50), 2, 1, 99, -1);
    }

    private static void plans() {
        goes("plan", (x, a) -> x.plan(a[0]), base(0), 0, 0, 200, -1);
        goes("tried", (x, a) -> x.tried(a[0]), base(0), 0, 0, 200, -1);
        Call lamps = (x, a) -> x.lamps(a[0], a[1]);
        goes("lamps", lamps, base(0, 0), 0, 0, 2, -1);
        goes("lamps", lamps, base(0, 0), 1, 0, 200, -1);
    }
}
