import java.util.ArrayList;
import java.util.List;
import java.util.NoSuchElementException;

/**
 * Two objects made alike: what is done to one of them alone must not be seen in any answer. Each view of them is asked
 * of a fresh pair, for views change what they look at (the ROW, THE TEXT, NOW), and no object may have over 512 calls.
 */
final class Twins {
    interface Act {
        void on(AirMail x);
    }

    /** Nothing is done. */
    static final Act NOTHING = x -> { };

    private static final int VIEWS = 12;
    private static final int MOST_ASKED = 400;

    private Twins() {
    }

    /** Both are built, act is done to one of them and instead to the other one: then all answers are alike. */
    static void alike(String what, Act build, Act act, Act instead) {
        for (int view = 0; view < VIEWS; view++) {
            AirMail one = new AirMail();
            build.on(one);
            act.on(one);
            AirMail other = new AirMail();
            build.on(other);
            instead.on(other);
            compare(what, see(view, one), see(view, other));
        }
    }

    static void alike(String what, Act build, Act act) {
        alike(what, build, act, NOTHING);
    }

    private static void compare(String what, List<String> one, List<String> other) {
        Check.due(what + ": as many answers", one.size(), other.size());
        Check.due(what + ": not too many calls", one.size() <= MOST_ASKED, true);
        for (int i = 0; i < one.size() && i < other.size(); i++) {
            boolean alike = one.get(i).equals(other.get(i));
            Check.due(what + ": " + one.get(i) + " and " + other.get(i) + " alike", alike, true);
        }
    }

    private static List<String> see(int view, AirMail x) {
        List<String> seen = new ArrayList<>();
        switch (view) {
            case 0:
                seeCountsAndRow(x, seen);
                break;
            case 1:
                seeLand(x, seen);
                break;
            case 2:
                seePlanes(x, seen);
                break;
            case 3:
                seeBags(x, seen);
                break;
            case 4:
                seeFlights(x, seen);
                break;
            case 5:
                seeWays(x, seen);
                break;
            case 6:
                seeSearch(x, seen);
                break;
            case 7:
                seePlans(x, seen);
                break;
            case 8:
                seeSettingsAndText(x, seen);
                break;
            case 9:
                seeRoomLeft(x, seen);
                break;
            case 10:
                seeWhatComes(x, seen);
                break;
            default:
                seeSpares(x, seen);
        }
        return seen;
    }

    private static void add(List<String> seen, String name, Check.Call call) {
        try {
            seen.add(name + " -> " + call.answer());
        } catch (NoSuchElementException e) {
            seen.add(name + " -> throws");
        }
    }

    private static void seeRow(AirMail x, List<String> seen) {
        for (int i = -1; i <= x.count(10); i++) {
            int k = i;
            add(seen, "row(" + k + ")", () -> x.row(k));
        }
    }

    private static void seeCountsAndRow(AirMail x, List<String> seen) {
        seeRow(x, seen);
        for (int i = 0; i <= 12; i++) {
            int what = i;
            add(seen, "count(" + what + ")", () -> x.count(what));
        }
        add(seen, "coin()", x::coin);
        add(seen, "needs()", x::needs);
        for (int i = 0; i < 3; i++) {
            int law = i;
            add(seen, "judge(" + law + ")", () -> x.judge(law));
        }
    }

    private static void seeLand(AirMail x, List<String> seen) {
        for (int i = 0; i < 64; i++) {
            int a = i / 8;
            int b = i % 8;
            add(seen, "far(" + a + ", " + b + ")", () -> x.far(a, b));
        }
        int[] quarters = {0, 33, 60, 3000};
        for (int i = 0; i < 12; i++) {
            int leg = i;
            for (int q : quarters) {
                add(seen, "sky(" + leg + ", " + q + ", 0)", () -> x.sky(leg, q, 0));
                add(seen, "sky(" + leg + ", " + q + ", 1)", () -> x.sky(leg, q, 1));
            }
            for (int f = 0; f < 4; f++) {
                int field = f;
                add(seen, "heard(" + f + ", " + leg + ", 36, 0)", () -> x.heard(field, leg, 36, 0));
                add(seen, "heard(" + f + ", " + leg + ", 3000, 1)", () -> x.heard(field, leg, 3000, 1));
                add(seen, "heard(" + f + ", " + leg + ", 3000, 2)", () -> x.heard(field, leg, 3000, 2));
            }
        }
    }

    private static void seePlanes(AirMail x, List<String> seen) {
        for (int i = 0; i < 8; i++) {
            int one = i;
            for (int k = 0; k <= 10; k++) {
                int what = k;
                add(seen, "of(" + one + ", " + what + ")", () -> x.of(one, what));
            }
            for (int k = 0; k < 4; k++) {
                int what = k;
                add(seen, "who(" + one + ", " + what + ")", () -> x.who(one, what));
            }
        }
    }

    private static void seeBags(AirMail x, List<String> seen) {
        for (int i = 0; i < 30; i++) {
            int bag = i;
            for (int k = 0; k < 6; k++) {
                int what = k;
                add(seen, "where(" + bag + ", " + what + ")", () -> x.where(bag, what));
            }
        }
    }

    private static void seeFlights(AirMail x, List<String> seen) {
        for (int i = 0; i < 24; i++) {
            int flight = i;
            for (int k = 0; k < 3; k++) {
                int what = k;
                add(seen, "flown(" + flight + ", " + what + ")", () -> x.flown(flight, what));
            }
            add(seen, "why(" + flight + ", 0)", () -> x.why(flight, 0));
            add(seen, "why(" + flight + ", 1)", () -> x.why(flight, 1));
            add(seen, "may(" + flight + ")", () -> x.may(flight));
        }
    }

    private static void seeWays(AirMail x, List<String> seen) {
        for (int i = 0; i < 30; i++) {
            int bag = i;
            add(seen, "lead(" + bag + ")", () -> x.lead(bag));
            if (seen.size() < 300) {
                seeRow(x, seen);
            }
        }
    }

    private static void seeSearch(AirMail x, List<String> seen) {
        for (int i = 0; i < 8; i++) {
            int plane = i;
            for (int k = 0; k < 16; k++) {
                int cell = k;
                add(seen, "chance(" + plane + ", " + cell + ", 0)", () -> x.chance(plane, cell, 0));
                add(seen, "chance(" + plane + ", " + cell + ", 1)", () -> x.chance(plane, cell, 1));
            }
            add(seen, "lanes(" + plane + ", 60, 50)", () -> x.lanes(plane, 60, 50));
            add(seen, "look(" + plane + ", 1, 40)", () -> x.look(plane, 1, 40));
            add(seen, "chance(" + plane + ", 1, 1)", () -> x.chance(plane, 1, 1));
            add(seen, "find(" + plane + ")", () -> x.find(plane));
        }
    }

    private static void seePlans(AirMail x, List<String> seen) {
        int[] many = {0, 5, 40, 200};
        for (int n : many) {
            add(seen, "tried(" + n + ")", () -> x.tried(n));
            add(seen, "plan(" + n + ")", () -> x.plan(n));
            seeRow(x, seen);
            for (int i = 0; i < 3; i++) {
                int k = i;
                add(seen, "lamps(" + k + ", " + n + ")", () -> x.lamps(k, n));
                seeRow(x, seen);
            }
        }
    }

    private static void seeSettingsAndText(AirMail x, List<String> seen) {
        for (int i = 0; i < 3; i++) {
            int what = i;
            add(seen, "set(" + what + ", 0)", () -> x.set(what, 0));
        }
        add(seen, "force(0, 0) of THE TEXT", () -> x.force(0, 0));
        for (int i = 0; i < 24; i++) {
            int flight = i;
            add(seen, "may(" + flight + ") by THE TEXT", () -> x.may(flight));
        }
    }

    private static void seeRoomLeft(AirMail x, List<String> seen) {
        add(seen, "field", () -> x.field(0, false, 0));
        add(seen, "leg", () -> x.leg(0, 1, 10, 0));
        for (int i = 0; i < 12; i++) {
            int leg = i;
            add(seen, "ground of " + leg, () -> x.ground(leg, 1, 0));
        }
        add(seen, "weather", () -> x.weather(0, 0, 0, 0));
        add(seen, "word", () -> x.word(0, 0, 0, 0, 0));
        add(seen, "plane", () -> x.plane(0, 5, 50, 20, 1, true));
        add(seen, "pilot", () -> x.pilot(0, 0));
        add(seen, "bag", () -> x.bag(0, 1, 1, 0, 0));
        add(seen, "flight", () -> x.flight(0, 0, 0, 3000));
        add(seen, "end", () -> x.end(0) ? 1 : 0);
        add(seen, "sign", () -> x.sign(0x3A470000));
        add(seen, "end", () -> x.end(2) ? 1 : 0);
        add(seen, "rule", () -> x.force(1, 0));
        add(seen, "sign", () -> x.sign(0x31000000));
        add(seen, "end", () -> x.end(1) ? 1 : 0);
        add(seen, "law", () -> x.force(2, 0));
    }

    private static void seeWhatComes(AirMail x, List<String> seen) {
        int[] many = {1, 5, 30, 100};
        for (int n : many) {
            add(seen, "step(" + n + ")", () -> x.step(n));
            for (int i = 0; i < 8; i++) {
                int one = i;
                add(seen, "field of plane " + one, () -> x.of(one, 0));
                add(seen, "HURT of plane " + one, () -> x.of(one, 4));
                add(seen, "USED of plane " + one, () -> x.of(one, 5));
                add(seen, "FLOWN of pilot " + one, () -> x.who(one, 2));
                add(seen, "flight " + one, () -> x.flown(one, 0));
                add(seen, "bag " + one, () -> x.where(one, 3));
            }
            add(seen, "coin()", x::coin);
            add(seen, "words", () -> x.count(7));
        }
    }

    private static void seeSpares(AirMail x, List<String> seen) {
        add(seen, "needs()", x::needs);
        add(seen, "send()", x::send);
        seeRow(x, seen);
        for (int i = 0; i < 8; i++) {
            int plane = i;
            add(seen, "READY of plane " + plane, () -> x.of(plane, 7));
        }
        for (int i = 0; i < 8; i++) {
            int plane = i;
            add(seen, "find(" + plane + ")", () -> x.find(plane));
        }
        add(seen, "step(50)", () -> x.step(50));
        for (int i = 0; i < 8; i++) {
            int plane = i;
            add(seen, "engine(" + plane + ", 999, 1, 0)", () -> x.engine(plane, 999, 1, 0) ? 1 : 0);
        }
        add(seen, "send() of what spares are left", x::send);
        seeRow(x, seen);
    }
}
