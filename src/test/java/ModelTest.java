import java.util.NoSuchElementException;
import java.util.Random;

/** Long runs of chance calls, the same each time, which AirMail and Model must answer alike. */
public final class ModelTest {
    private static final long THROWN = Long.MIN_VALUE;
    private static int wrong = 0;
    private static long asked = 0;
    private static final int[] calls = new int[43];
    private static final long[] events = new long[16];
    private static final long[] states = new long[5];

    private final Random r;
    private final AirMail x = new AirMail();
    private final Model m = new Model();
    private final StringBuilder log = new StringBuilder();
    private int fields;
    private int legs;
    private int planes;
    private int pilots;
    private int bags;
    private int flights;
    private int now;
    private boolean failed;

    private ModelTest(long seed) {
        r = new Random(seed);
    }

    public static void main(String[] args) {
        int runs = args.length > 0 ? Integer.parseInt(args[0]) : 1200;
        for (int seed = 0; seed < runs && wrong < 5; seed++) {
            new ModelTest(seed).run(seed);
        }
        for (int i = 0; i < calls.length; i++) {
            if (calls[i] == 0) {
                wrong++;
                System.out.println("no run asked call " + i);
            }
        }
        if (args.length > 0) {
            System.out.println(java.util.Arrays.toString(calls) + java.util.Arrays.toString(events)
                + java.util.Arrays.toString(states));
        }
        System.out.println(asked + " answers of chance runs, " + wrong + " not alike");
        if (wrong != 0) {
            System.exit(1);
        }
    }

    private long of(Check.Call call) {
        try {
            return call.answer();
        } catch (NoSuchElementException e) {
            return THROWN;
        }
    }

    private long same(int call, String name, Check.Call ofMail, Check.Call ofModel) {
        if (failed) {
            return -1;
        }
        asked++;
        calls[call]++;
        long a;
        try {
            a = of(ofMail);
        } catch (RuntimeException e) {
            a = THROWN + 1;
            System.out.println(e);
        }
        long b = of(ofModel);
        log.append(name).append(" -> ").append(a == THROWN ? "throws" : "" + a).append('\n');
        if (a != b) {
            failed = true;
            wrong++;
            System.out.println(log);
            System.out.println("the model answers " + (b == THROWN ? "throws" : "" + b));
        }
        return a;
    }

    private int num(int low, int high) {
        return low + r.nextInt(high - low + 1);
    }

    /** A number of a range, at times one of its ends or just beyond them. */
    private int about(int low, int high) {
        switch (r.nextInt(40)) {
            case 0:
                return low - 1;
            case 1:
                return high + 1;
            case 2:
                return low;
            case 3:
                return high;
            case 4:
                return r.nextInt(8) == 0 ? r.nextInt() : num(low, high);
            default:
                return num(low, high);
        }
    }

    /** One of so many, at times none such. */
    private int one(int many) {
        return r.nextInt(50) == 0 ? r.nextInt(3) == 0 ? -1 : many : r.nextInt(Math.max(1, many));
    }

    private void run(int seed) {
        log.append("seed ").append(seed).append('\n');
        boolean small = r.nextInt(3) == 0;
        int f = small ? 2 : num(2, 8);
        for (int i = 0; i < f; i++) {
            field();
        }
        int l = small ? 2 : num(1, 12);
        for (int i = 0; i < l; i++) {
            leg();
        }
        for (int i = 0; i < 3; i++) {
            ground();
            weather();
        }
        for (int i = num(1, 4); i > 0; i--) {
            plane();
            pilot();
        }
        for (int i = num(0, 12); i > 0; i--) {
            bag();
        }
        if (r.nextInt(10) != 0) {
            force(0, r.nextInt(3) != 0 ? ":G" : text(0), r.nextInt(3) == 0 ? about(0, 3000) : 0);
        }
        if (r.nextInt(2) == 0) {
            force(1, text(1), 0);
        }
        force(2, r.nextInt(3) == 0 ? "w*m" : text(2), 0);
        for (int i = r.nextInt(30); i > 0 && r.nextInt(4) != 0; i--) {
            step();
        }
        for (int i = num(0, 8); i > 0; i--) {
            flight();
            bag();
            if (r.nextInt(3) == 0) {
                mayAndWhy();
            }
            if (r.nextInt(4) == 0) {
                plans();
            }
            if (r.nextInt(2) == 0) {
                step();
            }
        }
        // the whole run stays near 512 calls
        for (int i = 0; i < 380 && !failed; i++) {
            any();
        }
        checkAll();
    }

    private void any() {
        int c = r.nextInt(100);
        if (c < 7) {
            flight();
            if (r.nextInt(3) != 0) {
                bag();
            }
            if (r.nextInt(4) == 0) {
                plans();
            }
            if (r.nextInt(4) != 0) {
                step();
            }
        } else if (c < 28) {
            step();
        } else if (c < 64) {
            ask();
        } else if (c < 66) {
            field();
        } else if (c < 68) {
            leg();
        } else if (c < 70) {
            ground();
        } else if (c < 73) {
            weather();
        } else if (c < 76) {
            word();
        } else if (c < 77) {
            plane();
        } else if (c < 78) {
            pilot();
        } else if (c < 84) {
            bag();
        } else if (c < 89) {
            rare();
        } else if (c < 92) {
            int kind = r.nextInt(3);
            force(r.nextInt(20) == 0 ? about(0, 2) : kind, text(kind), about(0, kind == 2 ? 20 : 900));
        } else if (c < 96) {
            search();
        } else {
            plans();
        }
    }

    private void field() {
        int h = r.nextInt(3) == 0 ? 0 : about(0, 99);
        int s = about(0, r.nextInt(3) == 0 ? 9 : 1);
        boolean is = r.nextBoolean();
        if (same(0, "field(" + h + ", " + is + ", " + s + ")", () -> x.field(h, is, s), () -> m.field(h, is, s)) >= 0) {
            fields++;
        }
    }

    private void leg() {
        int a = one(fields);
        int b = one(fields);
        int miles = r.nextInt(3) == 0 ? about(10, 400) : about(10, 120);
        int pass = r.nextInt(3) == 0 ? about(0, 150) : about(0, 60);
        if (same(1, "leg(" + a + ", " + b + ", " + miles + ", " + pass + ")", () -> x.leg(a, b, miles, pass),
            () -> m.leg(a, b, miles, pass)) >= 0) {
            legs++;
        }
    }

    private void ground() {
        int l = one(legs);
        int mile = about(1, r.nextInt(4) == 0 ? 400 : 100);
        int rough = about(0, 3);
        same(2, "ground(" + l + ", " + mile + ", " + rough + ")", () -> x.ground(l, mile, rough),
            () -> m.ground(l, mile, rough));
    }

    private void weather() {
        int l = one(legs);
        int q = r.nextInt(4) == 0 ? about(0, 3000) : now + num(0, 60);
        int c = about(0, r.nextInt(2) == 0 ? 200 : 60);
        int w = about(-9, 9);
        same(3, "weather(" + l + ", " + q + ", " + c + ", " + w + ")", () -> x.weather(l, q, c, w),
            () -> m.weather(l, q, c, w));
    }

    private void word() {
        int f = one(fields);
        int l = one(legs);
        int s = r.nextInt(2) == 0 ? now : about(0, now);
        int c = about(0, 200);
        int w = about(-9, 9);
        same(4, "word(" + f + ", " + l + ", " + s + ", " + c + ", " + w + ")", () -> x.word(f, l, s, c, w),
            () -> m.word(f, l, s, c, w));
    }

    private void plane() {
        int f = one(fields);
        int s = about(5, 60);
        int l = r.nextInt(3) == 0 ? about(50, 3000) : about(400, 1500);
        int t = r.nextInt(3) == 0 ? about(20, 250) : about(60, 150);
        int k = r.nextInt(3) == 0 ? about(1, 4) : about(1, 60);
        boolean g = r.nextInt(4) != 0;
        if (same(5, "plane(" + f + ", " + s + ", " + l + ", " + t + ", " + k + ", " + g + ")",
            () -> x.plane(f, s, l, t, k, g), () -> m.plane(f, s, l, t, k, g)) >= 0) {
            planes++;
            if (r.nextInt(3) == 0) {
                engine(planes - 1);
            }
        }
    }

    private void engine(int p) {
        int due = r.nextInt(2) == 0 ? about(1, 999) : about(1, 60);
        int used = r.nextInt(2) == 0 ? about(0, Math.min(999, Math.max(1, due))) : about(0, 999);
        int fails = r.nextInt(2) == 0 ? 0 : r.nextInt(2) == 0 ? used + num(1, 8) : about(0, 999);
        same(6, "engine(" + p + ", " + used + ", " + due + ", " + fails + ")",
            () -> x.engine(p, used, due, fails) ? 1 : 0, () -> m.engine(p, used, due, fails) ? 1 : 0);
    }

    private void pilot() {
        int f = planes > 0 && r.nextInt(3) != 0 ? Math.max(0, m.of(r.nextInt(planes), 0)) : one(fields);
        int k = r.nextInt(8) == 0 ? about(0, 4095) : r.nextInt(1 << legs);
        if (same(7, "pilot(" + f + ", " + k + ")", () -> x.pilot(f, k), () -> m.pilot(f, k)) >= 0) {
            pilots++;
        }
    }

    private void bag() {
        int a = planes > 0 && r.nextInt(3) != 0 ? Math.max(0, m.of(r.nextInt(planes), 0)) : one(fields);
        int b = one(fields);
        for (int i = 0; i < 10 && m.far(a, b) < 1; i++) {
            b = one(fields);
        }
        addBag(a, b);
    }

    private void addBag(int a, int b) {
        int w = r.nextInt(3) == 0 ? about(1, 500) : about(1, 120);
        int k = about(0, r.nextBoolean() ? 9 : 1);
        int d = r.nextInt(3) == 0 ? about(0, 3000) : now + num(0, 40);
        if (same(8, "bag(" + a + ", " + b + ", " + w + ", " + k + ", " + d + ")", () -> x.bag(a, b, w, k, d),
            () -> m.bag(a, b, w, k, d)) >= 0) {
            bags++;
        }
    }

    private void rare() {
        int c = r.nextInt(9);
        if (c == 0) {
            int f = one(fields);
            boolean is = r.nextBoolean();
            same(9, "lamp(" + f + ", " + is + ")", () -> x.lamp(f, is) ? 1 : 0, () -> m.lamp(f, is) ? 1 : 0);
        } else if (c == 1) {
            engine(one(planes));
        } else if (c == 2) {
            int p = one(pilots);
            int l = one(legs);
            same(10, "learns(" + p + ", " + l + ")", () -> x.learns(p, l) ? 1 : 0, () -> m.learns(p, l) ? 1 : 0);
        } else if (c <= 4) {
            int b = one(bags);
            same(11, "train(" + b + ")", () -> x.train(b), () -> m.train(b));
        } else if (c == 5) {
            int w = about(0, 2);
            int v = about(0, w == 0 ? 20 : w == 1 ? 50 : 99);
            same(12, "set(" + w + ", " + v + ")", () -> x.set(w, v), () -> m.set(w, v));
        } else if (c == 6) {
            int f = one(flights);
            same(13, "cancel(" + f + ")", () -> x.cancel(f) ? 1 : 0, () -> m.cancel(f) ? 1 : 0);
        } else {
            long s = same(14, "send()", x::send, m::send);
            events[0] += s > 0 ? 1 : 0;
            rowToo();
        }
    }

    private void flight() {
        int p = one(planes);
        int w = one(pilots);
        int l = one(legs);
        // most would not fit together: look for some that do
        for (int i = 0; i < 300 && r.nextInt(200) != 0 && !fit(p, w, l); i++) {
            p = one(planes);
            w = one(pilots);
            l = one(legs);
        }
        int q = r.nextInt(20) == 0 ? about(0, 3000) : now + (r.nextBoolean() ? 0 : num(0, 4));
        int plane = p;
        int pilot = w;
        int leg = l;
        if (same(15, "flight(" + p + ", " + w + ", " + l + ", " + q + ")", () -> x.flight(plane, pilot, leg, q),
            () -> m.flight(plane, pilot, leg, q)) >= 0) {
            flights++;
        }
    }

    private boolean fit(int plane, int pilot, int leg) {
        if (plane < 0 || plane >= planes || pilot < 0 || pilot >= pilots) {
            return false;
        }
        int at = m.of(plane, 0);
        return at == m.who(pilot, 0) && m.isEnd(leg, at);
    }

    private void step() {
        int n = r.nextInt(12) == 0 ? about(0, 400) : r.nextInt(4) == 0 ? num(5, 60) : num(0, 4);
        long at = same(16, "step(" + n + ")", () -> x.step(n), () -> m.step(n));
        now = at >= 0 ? (int) at : now;
    }

    private void force(int kind, String text, int from) {
        if (r.nextInt(30) == 0) {
            same(17, "end", () -> x.end(-1) ? 1 : 0, () -> m.end(-1) ? 1 : 0);
        }
        same(17, "end", () -> x.end(0) ? 1 : 0, () -> m.end(0) ? 1 : 0);
        for (int i = 0; i < text.length(); i += 4) {
            int v = 0;
            for (int k = 0; k < 4; k++) {
                v = v << 8 | (i + k < text.length() ? text.charAt(i + k) : 0);
            }
            int four = v;
            same(18, "sign(" + v + ")", () -> x.sign(four), () -> m.sign(four));
        }
        int n = r.nextInt(40) == 0 ? about(0, text.length() + 3) : text.length();
        same(17, "end(" + n + ")", () -> x.end(n) ? 1 : 0, () -> m.end(n) ? 1 : 0);
        long got = same(19, "force(" + kind + ", " + from + ") of " + text, () -> x.force(kind, from),
            () -> m.force(kind, from));
        events[got >= 0 ? 1 : got == -100 ? 2 : got == -61 ? 3 : 4]++;
    }

    /** A text of a kind, most of them good ones. */
    private String text(int kind) {
        StringBuilder t = new StringBuilder();
        int lines = kind == 2 ? 1 : num(1, 4);
        for (int i = 0; i < lines; i++) {
            if (i > 0) {
                t.append(';');
            }
            if (kind == 2) {
                choice(t, 2);
            } else {
                if (r.nextInt(4) != 0) {
                    expression(t, kind, 3);
                }
                t.append(':').append((kind == 0 ? "GGGW" : "GGGTL").charAt(r.nextInt(kind == 0 ? 4 : 5)));
            }
        }
        if (r.nextInt(6) == 0 && t.length() > 0) {
            t.setCharAt(r.nextInt(t.length()), "cwanlkhfgumstdGWTL0123456789|&<>=+-*!():;? x".charAt(r.nextInt(44)));
        }
        if (r.nextInt(12) == 0) {
            t.setLength(r.nextInt(t.length() + 1));
        }
        if (r.nextInt(30) == 0) {
            t.setLength(0);
            for (int i = num(50, 70); i > 0; i--) {
                t.append("(!-".charAt(r.nextInt(3)));
            }
        }
        if (t.length() > 60 && r.nextInt(4) != 0) {
            return kind == 2 ? "w*m-t" : kind == 0 ? "c+30>0|a>50:G;:W" : "c<0&!k:T;f<g:L";
        }
        if (t.length() > 100) {
            t.setLength(100);
        }
        return t.toString();
    }

    private void choice(StringBuilder t, int depth) {
        expression(t, 2, 2);
        if (depth > 0 && r.nextInt(2) == 0) {
            t.append('?');
            choice(t, depth - 1);
            t.append(':');
            choice(t, depth - 1);
        }
    }

    private void expression(StringBuilder t, int kind, int depth) {
        int c = r.nextInt(depth > 0 ? 10 : 4);
        if (c < 2) {
            t.append((kind == 2 ? "wmstd" : "cwanlkhfgu").charAt(r.nextInt(kind == 2 ? 5 : 10)));
        } else if (c < 4) {
            t.append(r.nextInt(3) == 0 ? r.nextInt(1000) : r.nextInt(20));
        } else if (c == 4) {
            t.append(r.nextBoolean() ? '!' : '-');
            expression(t, kind, 0);
        } else if (c == 5) {
            t.append('(');
            expression(t, kind, depth - 1);
            t.append(')');
        } else {
            expression(t, kind, depth - 1);
            t.append("|&<>=+-*".charAt(r.nextInt(8)));
            expression(t, kind, depth - 1);
        }
    }

    private void mayAndWhy() {
        int f = one(flights);
        long may = same(25, "may(" + f + ")", () -> x.may(f), () -> m.may(f));
        events[may < 0 ? 5 : 5 + (int) may]++;
        int k = about(0, 1);
        same(26, "why(" + f + ", " + k + ")", () -> x.why(f, k), () -> m.why(f, k));
    }

    private void ask() {
        int c = r.nextInt(13);
        int what = about(0, 12);
        if (c == 0) {
            same(20, "count(" + what + ")", () -> x.count(what), () -> m.count(what));
        } else if (c <= 2) {
            int p = one(planes);
            same(21, "of(" + p + ", " + what + ")", () -> x.of(p, what), () -> m.of(p, what));
        } else if (c == 3) {
            int p = one(pilots);
            int w = about(0, 3);
            same(22, "who(" + p + ", " + w + ")", () -> x.who(p, w), () -> m.who(p, w));
        } else if (c == 4) {
            int b = one(bags);
            int w = about(0, 5);
            same(23, "where(" + b + ", " + w + ")", () -> x.where(b, w), () -> m.where(b, w));
        } else if (c == 5) {
            int f = one(flights);
            int w = about(0, 2);
            same(24, "flown(" + f + ", " + w + ")", () -> x.flown(f, w), () -> m.flown(f, w));
        } else if (c <= 7) {
            mayAndWhy();
        } else if (c == 8) {
            int l = one(legs);
            int q = about(0, r.nextBoolean() ? 3000 : now);
            int w = about(0, 1);
            same(27, "sky(" + l + ", " + q + ", " + w + ")", () -> x.sky(l, q, w), () -> m.sky(l, q, w));
        } else if (c == 9) {
            int f = one(fields);
            int l = one(legs);
            int q = r.nextBoolean() ? about(0, 3000) : now;
            int w = about(0, 2);
            same(28, "heard(" + f + ", " + l + ", " + q + ", " + w + ")", () -> x.heard(f, l, q, w),
                () -> m.heard(f, l, q, w));
        } else if (c == 10) {
            int b = one(bags);
            same(29, "lead(" + b + ")", () -> x.lead(b), () -> m.lead(b));
            rowToo();
        } else if (c == 11) {
            int l = r.nextInt(5);
            same(30, "judge(" + l + ")", () -> x.judge(l), () -> m.judge(l));
            same(31, "coin()", x::coin, m::coin);
        } else {
            int a = one(fields);
            int b = one(fields);
            same(32, "far(" + a + ", " + b + ")", () -> x.far(a, b), () -> m.far(a, b));
            same(33, "needs()", x::needs, m::needs);
        }
    }

    private void search() {
        int p = one(planes);
        for (int i = 0; i < 8 && m.count(12) > 0 && (p < 0 || p >= planes || m.of(p, 3) == 0); i++) {
            p = one(planes);
        }
        int plane = p;
        int c = r.nextInt(6);
        int cell = about(0, r.nextInt(4) == 0 ? 40 : 10);
        if (c == 0) {
            long f = same(34, "find(" + plane + ")", () -> x.find(plane), () -> m.find(plane));
            events[13] += f >= 0 ? 1 : 0;
        } else if (c <= 2) {
            int sight = about(1, 99);
            same(35, "look(" + plane + ", " + cell + ", " + sight + ")", () -> x.look(plane, cell, sight),
                () -> m.look(plane, cell, sight));
        } else if (c <= 4) {
            int w = about(0, 1);
            long got = same(36, "chance(" + plane + ", " + cell + ", " + w + ")", () -> x.chance(plane, cell, w),
                () -> m.chance(plane, cell, w));
            events[14] += got > 1 ? 1 : 0;
        } else {
            int a = about(1, 99);
            int b = r.nextInt(3) == 0 ? a : about(1, 99);
            same(37, "lanes(" + plane + ", " + a + ", " + b + ")", () -> x.lanes(plane, a, b),
                () -> m.lanes(plane, a, b));
        }
    }

    private void plans() {
        int n = r.nextInt(3) == 0 ? about(0, 200) : num(0, 40);
        int c = r.nextInt(4);
        if (c == 0) {
            same(38, "plan(" + n + ")", () -> x.plan(n), () -> m.plan(n));
            events[15] += !failed && m.count(10) == 1 && m.row(0) > 0 ? 1 : 0;
            rowToo();
        } else if (c == 1) {
            int k = about(0, 2);
            same(39, "lamps(" + k + ", " + n + ")", () -> x.lamps(k, n), () -> m.lamps(k, n));
            rowToo();
        } else {
            same(40, "tried(" + n + ")", () -> x.tried(n), () -> m.tried(n));
        }
        if (r.nextInt(4) == 0) {
            checkAll();
        }
    }

    private void rowToo() {
        long n = same(20, "count(10)", () -> x.count(10), () -> m.count(10));
        int i = about(0, (int) Math.max(0, n - 1));
        same(41, "row(" + i + ")", () -> x.row(i), () -> m.row(i));
    }

    /** Everything that can be asked; trials must have left it as it was. */
    private void checkAll() {
        for (int i = 0; i <= 12; i++) {
            int w = i;
            same(20, "count(" + w + ")", () -> x.count(w), () -> m.count(w));
            for (int p = 0; p < planes; p++) {
                int n = p;
                same(21, "of(" + n + ", " + w + ")", () -> x.of(n, w), () -> m.of(n, w));
            }
            for (int p = 0; p < pilots && w < 4; p++) {
                int n = p;
                same(22, "who(" + n + ", " + w + ")", () -> x.who(n, w), () -> m.who(n, w));
            }
            for (int p = 0; p < bags && w < 6; p++) {
                int n = p;
                same(23, "where(" + n + ", " + w + ")", () -> x.where(n, w), () -> m.where(n, w));
            }
            for (int p = 0; p < flights && w < 3; p++) {
                int n = p;
                same(24, "flown(" + n + ", " + w + ")", () -> x.flown(n, w), () -> m.flown(n, w));
                same(26, "why(" + n + ", " + w + ")", () -> x.why(n, w), () -> m.why(n, w));
            }
        }
        for (int b = 0; b < bags; b++) {
            int n = b;
            same(29, "lead(" + n + ")", () -> x.lead(n), () -> m.lead(n));
            for (int i = 0; i < 33 && !failed; i++) {
                int k = i;
                same(41, "row(" + k + ")", () -> x.row(k), () -> m.row(k));
            }
        }
        same(42, "coin()", x::coin, m::coin);
        for (int f = 0; f < flights && !failed; f++) {
            states[m.flown(f, 0)]++;
        }
    }
}
