/** Promises 21 to 24 and 27 to 30: flights, what keeps them from starting, and quarters that go by. */
public final class FlightsTest {
    public static void main(String[] args) {
        flightsAndCancel();
        steps();
        may();
        carried();
        bagsTaken();
        lettersAtStart();
        lettersAloft();
        turn();
        wind();
        forcedByFailure();
        forcedByTank();
        forcedByCloud();
        grounds();
        landing();
        flown();
        oneAfterTheOther();
        Check.finish();
    }

    /** Two fields, a leg of 100 miles, pass 50; a plane of speed 20 with gear, and a pilot who knows the leg. */
    private static AirMail simple(String start, String aloft) {
        AirMail x = new AirMail();
        x.field(10, true, 0);
        x.field(20, false, 0);
        x.leg(0, 1, 100, 50);
        x.plane(0, 20, 500, 100, 10, true);
        x.pilot(0, 1);
        if (!start.isEmpty()) {
            Check.due("start rule " + start, Check.force(x, 0, 0, start) > 0, true);
        }
        if (!aloft.isEmpty()) {
            Check.due("aloft rule " + aloft, Check.force(x, 1, 0, aloft) > 0, true);
        }
        return x;
    }

    private static void flightsAndCancel() {
        AirMail x = simple(":G", "");
        x.step(5);
        Check.due("no such plane", x.flight(1, 0, 0, 5), -1);
        Check.due("no such pilot", x.flight(0, 1, 0, 5), -1);
        Check.due("no such leg", x.flight(0, 0, 1, 5), -1);
        Check.due("plane -1", x.flight(-1, 0, 0, 5), -1);
        Check.due("ahead of NOW", x.flight(0, 0, 0, 4), -1);
        Check.due("quarter 3001", x.flight(0, 0, 0, 3001), -1);
        Check.due("at 3000", x.flight(0, 0, 0, 3000), 0);
        for (int i = 1; i < 24; i++) {
            Check.due("flight", x.flight(0, 0, 0, 5), i);
        }
        Check.due("a flight beyond 24", x.flight(0, 0, 0, 5), -1);
        Check.due("flights", x.count(6), 24);
        Check.due("cancel", x.cancel(2), true);
        Check.due("given up", x.flown(2, 0), 3);
        Check.due("never started", x.flown(2, 1), -1);
        Check.due("ended", x.flown(2, 2), 5);
        Check.due("cancel again", x.cancel(2), false);
        Check.due("cancel none", x.cancel(24), false);
        Check.due("cancel -1", x.cancel(-1), false);
        x.step(1);
        Check.due("it flies", x.flown(1, 0), 1);
        Check.due("a flight that flies", x.cancel(1), false);
        Check.due("flown of none", x.flown(24, 0), -1);
        Check.due("flown of -1", x.flown(-1, 0), -1);
        Check.due("flown what 3", x.flown(0, 3), -1);
        Check.due("flown what -1", x.flown(0, -1), -1);
        x.step(15);
        Check.due("waits at 15", x.flown(3, 0), 0);
        x.step(1);
        Check.due("given up at 16", x.flown(3, 0), 3);
        Check.due("at that quarter", x.flown(3, 2), 21);
    }

    private static void steps() {
        AirMail x = new AirMail();
        Check.due("step(-1)", x.step(-1), -1);
        Check.due("step(401)", x.step(401), -1);
        Check.due("step(0)", x.step(0), 0);
        for (int i = 1; i <= 7; i++) {
            Check.due("step(400)", x.step(400), 400 * i);
        }
        Check.due("beyond 3000", x.step(201), -1);
        Check.due("nothing changed", x.count(0), 2800);
        Check.due("to 3000", x.step(200), 3000);
        Check.due("step(1) at the end", x.step(1), -1);
        Check.due("step(0) at the end", x.step(0), 3000);
        Check.due("no trial at the end", x.tried(1), -1);
        Check.due("a trial of nothing", x.tried(0), 0);
    }

    private static void may() {
        AirMail x = simple(":G", "");
        x.field(0, true, 1);
        x.leg(0, 2, 80, 90);
        x.leg(1, 2, 30, 0);
        x.pilot(1, 0);
        Check.due("may of none", x.may(0), -1);
        x.flight(0, 0, 0, 10);
        x.flight(0, 1, 0, 10);
        x.flight(0, 0, 2, 10);
        x.flight(0, 0, 1, 10);
        Check.due("it may", x.may(0), 0);
        Check.due("pilot elsewhere", x.may(1), 1);
        Check.due("both elsewhere than the leg", x.may(2), 1);
        Check.due("may of -1", x.may(-1), -1);
        x.engine(0, 199, 200, 0);
        Check.due("top 100 less 9 over a pass of 90", x.may(3), 0);
        x.engine(0, 219, 220, 0);
        Check.due("top 100 less 10 over it, for nothing", x.may(3), 0);
        x.engine(0, 220, 221, 0);
        Check.due("top 100 less 11: too high", x.may(3), 6);
        Check.due("over the lower pass", x.may(0), 0);
        x.engine(0, 220, 220, 0);
        Check.due("used comes ahead of too high", x.may(3), 4);
        x.send();
        Check.due("not ready comes ahead", x.may(0), 3);
        x.step(9);
        Check.due("80 miles by 8 are 10 quarters", x.may(0), 3);
        x.step(1);
        Check.due("ready", x.may(0), 0);
        Check.force(x, 0, 0, ":W");
        Check.due("the act is W", x.may(0), 7);
        x.cancel(0);
        Check.due("it does not wait", x.may(0), -1);
        AirMail y = new AirMail();
        y.field(0, true, 0);
        y.field(0, true, 0);
        y.leg(0, 1, 100, 0);
        y.plane(0, 20, 500, 100, 10, false);
        y.pilot(0, 1);
        y.flight(0, 0, 0, 110);
        Check.force(y, 0, 0, ":G");
        int[] at = {0, 23, 24, 71, 72, 95, 96, 119, 120};
        int[] due = {5, 5, 0, 0, 5, 5, 5, 5, 0};
        for (int i = 0; i < at.length; i++) {
            y.step(at[i] - y.count(0));
            Check.due("gear at " + at[i], y.may(0), due[i]);
        }
    }

    private static void carried() {
        AirMail x = new AirMail();
        x.field(20, true, 0);
        x.field(21, true, 0);
        x.leg(0, 1, 100, 20);
        x.plane(0, 20, 100, 100, 10, true);
        x.plane(1, 20, 104, 100, 10, true);
        x.pilot(0, 1);
        x.pilot(1, 1);
        Check.force(x, 0, 0, ":G");
        x.bag(0, 1, 1, 0, 0);
        x.flight(0, 0, 0, 0);
        x.flight(1, 1, 0, 0);
        Check.due("lift 100 at height 20", x.may(0), 0);
        Check.due("lift 104 at height 21", x.may(1), 6);
        x.step(1);
        Check.due("it starts with nothing", x.of(0, 8), 0);
        Check.due("the bag stays", x.where(0, 0), 0);
    }

    private static void bagsTaken() {
        AirMail x = new AirMail();
        for (int i = 0; i < 4; i++) {
            x.field(0, true, 0);
        }
        x.leg(0, 1, 100, 50);
        x.leg(1, 2, 100, 50);
        x.leg(0, 2, 150, 50);
        x.leg(2, 3, 10, 50);
        x.plane(0, 20, 500, 58, 60, true);
        x.pilot(0, 15);
        Check.force(x, 0, 0, ":G");
        x.bag(0, 1, 100, 5, 10);
        x.bag(0, 1, 100, 1, 20);
        x.bag(0, 1, 350, 1, 10);
        x.bag(0, 2, 10, 0, 0);
        x.bag(0, 3, 10, 0, 0);
        x.bag(1, 0, 10, 0, 0);
        x.bag(0, 1, 50, 1, 20);
        x.flight(0, 0, 0, 0);
        x.step(1);
        // 50 times 8 are 400: 350, not 100, then 50; nor bags for which the leg is a way around
        Check.due("weight on it", x.of(0, 8), 400);
        int[] on = {-1, -1, 0, -1, -1, -1, 0};
        for (int i = 0; i < on.length; i++) {
            Check.due("bag " + i, x.where(i, 1), on[i]);
        }
        x.step(20);
        x.flight(0, 0, 0, 21);
        x.step(20);
        Check.due("back with the other bag", x.where(5, 3), 25);
        x.flight(0, 0, 2, 41);
        x.step(20);
        Check.due("given at 2", x.where(3, 3), 48);
        Check.due("goes on from 2", x.where(4, 0), 2);
        x.flight(0, 0, 3, 61);
        x.step(1);
        Check.due("given at 3", x.where(4, 3), 61);
        AirMail y = new AirMail();
        y.field(0, true, 0);
        y.field(0, true, 0);
        y.leg(0, 1, 100, 0);
        y.leg(0, 1, 20, 0);
        y.plane(0, 20, 500, 58, 60, true);
        y.pilot(0, 1);
        Check.force(y, 0, 0, ":G");
        y.bag(0, 1, 1, 0, 0);
        y.flight(0, 0, 0, 0);
        y.step(1);
        Check.due("a long leg to its own field", y.where(0, 1), 0);
        AirMail z = simple(":G", "");
        for (int i = 0; i < 3; i++) {
            z.bag(0, 1, 225, 4, 60);
        }
        z.flight(0, 0, 0, 0);
        z.step(1);
        Check.due("450 in all", z.of(0, 8), 450);
        Check.due("of equal ones the last by number stays", z.where(2, 0), 0);
    }

    private static void starts(AirMail x, String rule, boolean is) {
        Check.force(x, 0, 3000, ":W");
        Check.force(x, 0, x.count(0), rule);
        Check.due("start by " + rule, x.may(x.count(6) - 1), is ? 0 : 7);
    }

    private static void lettersAtStart() {
        AirMail x = simple("", "");
        x.flight(0, 0, 0, 30);
        starts(x, "c=0&w=0&a=999:G", true);
        starts(x, "n=1&l=0&k=1&h=0&f=10&g=5&u=400:G", true);
        x.lamp(1, true);
        x.word(0, 0, 0, 70, 4);
        x.engine(0, 40, 100, 0);
        x.step(7);
        starts(x, "c=20&w=4&a=7&l=1&u=60:G", true);
        x.word(1, 0, 6, 30, -3);
        starts(x, "c=20&w=4&a=7:G", true);
        x.step(4);
        starts(x, "c=-20&w=-3&a=5:G", true);
        x.step(13);
        starts(x, "n:W;:G", true);
        AirMail y = new AirMail();
        y.field(0, true, 0);
        y.field(0, false, 0);
        y.leg(0, 1, 101, 50);
        y.plane(1, 20, 500, 100, 7, true);
        y.pilot(1, 0);
        y.word(1, 0, 0, 0, 5);
        y.flight(0, 0, 0, 0);
        starts(y, "c=0-50&w=-5&a=0&l=1&k=0&f=7&g=6:G", true);
    }

    private static void aloftLine(AirMail x, int line) {
        Check.due("aloft line", x.why(0, 1), line);
    }

    private static void lettersAloft() {
        AirMail x = simple(":G", "h=1:G;h=2&f=8&u=398&g=4:G;h=3&c=20&w=4&a=0:T;l&w=-4&g=2:G;:L");
        x.weather(0, 2, 70, 4);
        x.flight(0, 0, 0, 0);
        x.step(1);
        aloftLine(x, 0);
        Check.due("mile 20", x.of(0, 2), 20);
        x.step(1);
        aloftLine(x, 1);
        Check.due("mile 40", x.of(0, 2), 40);
        Check.due("goes to 1", x.of(0, 10), 1);
        x.step(1);
        aloftLine(x, 2);
        Check.due("turned, against the wind", x.of(0, 2), 24);
        Check.due("goes to 0", x.of(0, 10), 0);
        x.step(1);
        aloftLine(x, 3);
        Check.due("mile 8", x.of(0, 2), 8);
        x.step(1);
        aloftLine(x, 4);
        Check.due("landed where it is", x.of(0, 3), 1);
        AirMail y = simple(":G", "n=0&k=0:G;:G");
        y.learns(0, 0);
        y.flight(0, 0, 0, 23);
        y.step(24);
        Check.due("n and k aloft", y.why(0, 1), 1);
        AirMail z = new AirMail();
        z.field(0, true, 0);
        z.field(0, true, 0);
        z.leg(0, 1, 100, 0);
        z.plane(0, 20, 500, 100, 10, true);
        z.pilot(0, 0);
        Check.force(z, 0, 0, ":G");
        Check.force(z, 1, 0, "n=0&k=0:G;:G");
        z.flight(0, 0, 0, 23);
        z.step(24);
        Check.due("night", z.why(0, 1), 1);
        z.step(1);
        Check.due("day", z.why(0, 1), 0);
        AirMail none = simple(":G", "");
        none.flight(0, 0, 0, 0);
        none.step(1);
        Check.due("no rule aloft", none.why(0, 1), -2);
        Check.due("it goes", none.of(0, 2), 20);
    }

    private static void turn() {
        AirMail x = simple(":G", ":T");
        x.bag(0, 1, 10, 0, 50);
        x.flight(0, 0, 0, 30);
        x.step(31);
        Check.due("at once back", x.of(0, 0), 0);
        Check.due("done", x.flown(0, 0), 2);
        Check.due("the bag is at its field again", x.where(0, 0), 0);
        Check.due("steps of the bag", x.lead(0), 3);
        Check.row("its way", x, 0, 0, 30, 100, 30, 0);
        Check.due("no pilot with it", x.of(0, 9), -1);
        Check.due("pilot at the field", x.who(0, 0), 0);
        Check.due("used all the same", x.of(0, 5), 1);
        Check.due("spent all the same", x.count(9), 1);
    }

    private static void wind() {
        AirMail x = new AirMail();
        x.field(0, true, 0);
        x.field(0, true, 0);
        x.leg(0, 1, 100, 0);
        x.plane(0, 5, 500, 100, 60, true);
        x.plane(1, 5, 500, 100, 60, true);
        x.pilot(0, 0);
        x.pilot(1, 0);
        Check.force(x, 0, 0, ":G");
        x.weather(0, 0, 0, -9);
        x.flight(0, 0, 0, 0);
        x.flight(1, 1, 0, 0);
        x.step(2);
        Check.due("1 mile at least", x.of(0, 2), 2);
        Check.due("with the wind", x.of(1, 2), 72);
        x.weather(0, 2, 0, 3);
        x.step(1);
        Check.due("8 miles", x.of(0, 2), 10);
        Check.due("2 miles", x.of(1, 2), 70);
        Check.due("rate for both", x.count(9), 6);
        x.set(2, 7);
        x.step(1);
        Check.due("a new rate", x.count(9), 20);
        Check.due("coin below 0", x.coin(), -20);
    }

    private static void forcedByFailure() {
        AirMail x = simple(":G", "");
        x.bag(0, 1, 10, 0, 50);
        x.engine(0, 0, 400, 2);
        x.flight(0, 0, 0, 30);
        x.step(31);
        Check.due("aloft", x.of(0, 3), 0);
        x.step(1);
        int[] of = {-1, 0, 20, 1, 4, 2, 8, 0, 10, 0, -1};
        for (int what = 0; what < of.length; what++) {
            Check.due("down: of(0, " + what + ")", x.of(0, what), of[what]);
        }
        Check.due("pilot at no field", x.who(0, 0), -1);
        Check.due("pilot with it", x.who(0, 1), 0);
        Check.due("flown", x.who(0, 2), 2);
        Check.due("bag on it", x.where(0, 1), 0);
        Check.due("forced down", x.flown(0, 0), 4);
        Check.due("ended", x.flown(0, 2), 31);
        Check.due("one down", x.count(12), 1);
        Check.due("not heard of", x.count(7), 0);
        Check.due("it was asked at 30 only", x.why(0, 1), -2);
        x.step(10);
        Check.due("it stays", x.of(0, 2), 20);
        Check.due("nothing more spent", x.count(9), 2);
        AirMail y = simple(":G", "");
        y.engine(0, 5, 400, 3);
        y.flight(0, 0, 0, 30);
        y.step(36);
        Check.due("one that should have failed long ago", y.flown(0, 0), 2);
    }

    private static void forcedByTank() {
        AirMail x = new AirMail();
        x.field(0, true, 0);
        x.field(0, true, 0);
        x.leg(0, 1, 100, 0);
        x.plane(0, 20, 500, 100, 4, true);
        x.plane(0, 25, 500, 100, 4, true);
        x.pilot(0, 0);
        x.pilot(0, 0);
        Check.force(x, 0, 0, ":G");
        x.flight(0, 0, 0, 30);
        x.flight(1, 1, 0, 30);
        x.step(34);
        Check.due("the last drop", x.of(0, 6), 0);
        Check.due("still aloft", x.of(0, 3), 0);
        Check.due("the faster one is there", x.of(1, 0), 1);
        x.step(1);
        Check.due("down", x.of(0, 3), 1);
        Check.due("at 80", x.of(0, 2), 80);
        Check.due("by day", x.of(0, 4), 4);
    }

    private static void forcedByCloud() {
        AirMail x = simple(":G", "");
        x.pilot(0, 0);
        x.weather(0, 31, 49, 0);
        x.weather(0, 33, 50, 0);
        x.flight(0, 0, 0, 31);
        x.step(36);
        Check.due("who knows the leg goes on", x.flown(0, 0), 2);
        AirMail y = simple(":G", "");
        y.pilot(0, 0);
        y.weather(0, 31, 50, 0);
        y.weather(0, 32, 49, 0);
        y.flight(0, 1, 0, 31);
        y.step(32);
        Check.due("at the pass it goes", y.of(0, 2), 20);
        y.step(1);
        Check.due("below it is forced", y.flown(0, 0), 4);
        AirMail z = simple(":G", ":T");
        z.pilot(0, 0);
        z.weather(0, 0, 49, 0);
        z.flight(0, 1, 0, 31);
        z.step(32);
        Check.due("turned or not", z.flown(0, 0), 4);
        Check.due("it is down at mile 0", z.of(0, 2), 0);
        Check.due("it was asked", z.why(0, 1), 0);
    }

    /** Down by L at mile 40 at a quarter with these grounds, {mile, rough}: where it is, and how HURT. */
    private static void ground(int quarter, int glide, int mile, int hurt, int[]... at) {
        AirMail x = simple(":G", "h=3:L");
        for (int[] g : at) {
            x.ground(0, g[0], g[1]);
        }
        x.set(1, glide);
        x.step(quarter);
        x.flight(0, 0, 0, quarter);
        x.step(3);
        Check.due("down", x.of(0, 3), 1);
        Check.due("mile", x.of(0, 2), mile);
        Check.due("hurt", x.of(0, 4), hurt);
    }

    private static void grounds() {
        ground(30, 6, 40, 4);
        ground(0, 6, 40, 5);
        ground(30, 6, 34, 3, new int[] {34, 3});
        ground(30, 6, 46, 3, new int[] {46, 3});
        ground(30, 6, 40, 4, new int[] {47, 0}, new int[] {33, 0});
        ground(0, 6, 34, 1, new int[] {34, 0});
        ground(30, 6, 46, 1, new int[] {41, 2}, new int[] {46, 1}, new int[] {47, 0});
        ground(30, 6, 43, 1, new int[] {46, 1}, new int[] {43, 1}, new int[] {36, 1});
        ground(30, 6, 38, 1, new int[] {42, 1}, new int[] {38, 1});
        ground(30, 0, 40, 2, new int[] {41, 0}, new int[] {40, 2});
        ground(30, 50, 90, 0, new int[] {40, 1}, new int[] {90, 0});
    }

    /** Lands at quarter, with these: how HURT it is then. */
    private static void lands(int quarter, boolean lamp, boolean gear, int hurt) {
        AirMail x = new AirMail();
        x.field(0, true, 0);
        x.field(0, lamp, 0);
        x.leg(0, 1, 100, 0);
        x.plane(0, 50, 500, 100, 10, gear);
        x.pilot(0, 0);
        Check.force(x, 0, 0, ":G");
        x.flight(0, 0, 0, quarter - 1);
        x.step(quarter + 1);
        Check.due("landed", x.of(0, 0), 1);
        Check.due("hurt at " + quarter, x.of(0, 4), hurt);
    }

    private static void landing() {
        lands(71, false, false, 0);
        lands(72, true, false, 1);
        lands(72, false, true, 1);
        lands(72, true, true, 0);
        lands(23, false, true, 1);
        lands(24, false, true, 0);
        AirMail x = simple(":G", "");
        x.weather(0, 30, 150, 4);
        x.weather(0, 34, 140, -2);
        x.flight(0, 0, 0, 30);
        x.step(36);
        Check.due("a word of what it saw", x.heard(1, 0, 34, 1), 140);
        Check.due("and the wind", x.heard(1, 0, 34, 2), -2);
        Check.due("seen when it landed", x.heard(0, 0, 38, 0), 34);
        Check.noSuch("elsewhere later", () -> x.heard(0, 0, 37, 0));
    }

    private static void flown() {
        AirMail x = new AirMail();
        x.field(0, true, 0);
        x.field(0, true, 0);
        x.leg(0, 1, 100, 0);
        x.plane(0, 10, 500, 100, 60, true);
        x.pilot(0, 0);
        x.pilot(0, 0);
        Check.force(x, 0, 0, ":G");
        Check.force(x, 1, 0, "h=1:G;h=6:G");
        x.flight(0, 0, 0, 91);
        x.step(96);
        Check.due("5 quarters", x.who(0, 2), 5);
        Check.due("the other one", x.who(1, 2), 0);
        x.flight(0, 0, 0, 96);
        x.step(1);
        Check.due("a new day", x.who(0, 2), 1);
        Check.due("the rule sees it", x.why(0, 1), 0);
        x.step(5);
        Check.due("6 quarters", x.who(0, 2), 6);
        AirMail y = simple("h=0:G", "");
        y.flight(0, 0, 0, 91);
        y.step(96);
        Check.due("landed", y.of(0, 0), 1);
        y.flight(0, 0, 0, 96);
        y.send();
        y.lamp(1, true);
        Check.due("FLOWN as it is", y.who(0, 2), 5);
        Check.due("hurt", y.may(1), 2);
        AirMail z = simple("h=0:G", "");
        z.lamp(1, true);
        z.flight(0, 0, 0, 91);
        z.step(96);
        z.flight(0, 0, 0, 96);
        Check.due("may by FLOWN as it is", z.may(1), 7);
        z.step(1);
        Check.due("but on the new day it starts", z.flown(1, 0), 1);
    }

    private static void oneAfterTheOther() {
        AirMail x = simple(":G", "");
        x.plane(0, 20, 500, 100, 10, true);
        x.pilot(0, 1);
        x.bag(0, 1, 400, 0, 50);
        x.bag(0, 1, 300, 1, 50);
        x.flight(1, 0, 0, 30);
        x.flight(0, 0, 0, 30);
        x.flight(0, 1, 0, 30);
        x.step(31);
        Check.due("the first takes the pilot", x.flown(0, 0), 1);
        Check.due("the second waits for it", x.flown(1, 0), 0);
        Check.due("the third starts", x.flown(2, 0), 1);
        Check.due("the first bag with the first flight", x.where(0, 1), 1);
        Check.due("the second one with the next", x.where(1, 1), 0);
        x.step(10);
        Check.due("plane and pilot are at the other end", x.flown(1, 0), 2);
        Check.due("so it flew back", x.of(0, 0), 0);
        Check.due("from 35 on", x.flown(1, 1), 35);
    }
}
