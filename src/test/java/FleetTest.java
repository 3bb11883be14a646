/** Promises 11 to 17 and 26 to 29: planes, engines, pilots, bags, trains and what can be set. */
public final class FleetTest {
    public static void main(String[] args) {
        planes();
        engines();
        pilots();
        bags();
        trains();
        settings();
        Check.finish();
    }

    private static AirMail land() {
        AirMail x = new AirMail();
        x.field(0, true, 0);
        x.field(0, true, 0);
        x.field(0, true, 0);
        x.leg(0, 1, 50, 0);
        x.leg(0, 1, 60, 0);
        return x;
    }

    private static void planes() {
        AirMail x = land();
        Check.due("plane at none", x.plane(3, 5, 50, 20, 1, true), -1);
        Check.due("plane at -1", x.plane(-1, 5, 50, 20, 1, true), -1);
        Check.due("speed 4", x.plane(0, 4, 50, 20, 1, true), -1);
        Check.due("speed 61", x.plane(0, 61, 50, 20, 1, true), -1);
        Check.due("lift 49", x.plane(0, 5, 49, 20, 1, true), -1);
        Check.due("lift 3001", x.plane(0, 5, 3001, 20, 1, true), -1);
        Check.due("top 19", x.plane(0, 5, 50, 19, 1, true), -1);
        Check.due("top 251", x.plane(0, 5, 50, 251, 1, true), -1);
        Check.due("tank 0", x.plane(0, 5, 50, 20, 0, true), -1);
        Check.due("tank 61", x.plane(0, 5, 50, 20, 61, true), -1);
        Check.due("the least plane", x.plane(0, 5, 50, 20, 1, true), 0);
        Check.due("the most plane", x.plane(1, 60, 3000, 250, 60, false), 1);
        for (int i = 2; i < 8; i++) {
            Check.due("plane", x.plane(0, 5, 50, 20, 1, true), i);
        }
        Check.due("a ninth plane", x.plane(0, 5, 50, 20, 1, true), -1);
        Check.due("planes", x.count(3), 8);
        int[] first = {1, -1, -1, 0, 0, 0, 0, 0, 0, -1, -1};
        for (int what = 0; what <= 10; what++) {
            Check.due("of(1, " + what + ") at first", x.of(1, what), first[what]);
        }
        Check.noSuch("of(8, 0)", () -> x.of(8, 0));
        Check.noSuch("of(-1, 0)", () -> x.of(-1, 0));
        Check.noSuch("of(0, 11)", () -> x.of(0, 11));
        Check.noSuch("of(0, -1)", () -> x.of(0, -1));
    }

    private static void engines() {
        AirMail x = land();
        x.plane(0, 5, 50, 20, 1, true);
        Check.due("engine of none", x.engine(1, 0, 1, 0), false);
        Check.due("engine of -1", x.engine(-1, 0, 1, 0), false);
        Check.due("used -1", x.engine(0, -1, 1, 0), false);
        Check.due("used 1000", x.engine(0, 1000, 1, 0), false);
        Check.due("due 0", x.engine(0, 0, 0, 0), false);
        Check.due("due 1000", x.engine(0, 0, 1000, 0), false);
        Check.due("fails -1", x.engine(0, 0, 1, -1), false);
        Check.due("fails 1000", x.engine(0, 0, 1, 1000), false);
        Check.due("nothing changed", x.of(0, 5), 0);
        Check.due("engine", x.engine(0, 399, 400, 999), true);
        Check.due("used", x.of(0, 5), 399);
        Check.due("below due", x.needs(), 0);
        Check.due("engine", x.engine(0, 400, 400, 0), true);
        Check.due("at due", x.needs(), 1);
        Check.due("engine", x.engine(0, 999, 999, 0), true);
        Check.due("at the greatest due", x.needs(), 1);
        AirMail y = land();
        y.plane(0, 5, 50, 20, 1, true);
        y.pilot(0, 0);
        Check.due("a rule that tells DUE", Check.force(y, 0, 0, "u=400:G"), 1);
        y.flight(0, 0, 0, 0);
        Check.due("DUE is 400 at first", y.may(0), 0);
    }

    private static void pilots() {
        AirMail x = land();
        Check.due("pilot at none", x.pilot(3, 0), -1);
        Check.due("pilot at -1", x.pilot(-1, 0), -1);
        Check.due("knows no such leg", x.pilot(0, 4), -1);
        Check.due("knows -1", x.pilot(0, -1), -1);
        Check.due("pilot", x.pilot(2, 3), 0);
        for (int i = 1; i < 8; i++) {
            Check.due("pilot", x.pilot(0, 0), i);
        }
        Check.due("a ninth pilot", x.pilot(0, 0), -1);
        Check.due("pilots", x.count(4), 8);
        int[] first = {2, -1, 0, 3};
        for (int what = 0; what < 4; what++) {
            Check.due("who(0, " + what + ") at first", x.who(0, what), first[what]);
        }
        Check.due("learns", x.learns(1, 1), true);
        Check.due("knows it then", x.who(1, 3), 2);
        Check.due("learns it again", x.learns(1, 1), true);
        Check.due("knows it still", x.who(1, 3), 2);
        Check.due("learns more", x.learns(1, 0), true);
        Check.due("knows both", x.who(1, 3), 3);
        Check.due("none learns", x.learns(8, 0), false);
        Check.due("-1 learns", x.learns(-1, 0), false);
        Check.due("learns none", x.learns(0, 2), false);
        Check.due("learns -1", x.learns(0, -1), false);
        Check.noSuch("who(8, 0)", () -> x.who(8, 0));
        Check.noSuch("who(-1, 0)", () -> x.who(-1, 0));
        Check.noSuch("who(0, 4)", () -> x.who(0, 4));
        Check.noSuch("who(0, -1)", () -> x.who(0, -1));
    }

    private static void bags() {
        AirMail x = land();
        Check.due("bag from none", x.bag(3, 0, 1, 0, 0), -1);
        Check.due("bag to none", x.bag(0, 3, 1, 0, 0), -1);
        Check.due("bag to where it is", x.bag(0, 0, 1, 0, 0), -1);
        Check.due("bag without a way", x.bag(0, 2, 1, 0, 0), -1);
        Check.due("weight 0", x.bag(0, 1, 0, 0, 0), -1);
        Check.due("weight 501", x.bag(0, 1, 501, 0, 0), -1);
        Check.due("class -1", x.bag(0, 1, 1, -1, 0), -1);
        Check.due("class 10", x.bag(0, 1, 1, 10, 0), -1);
        Check.due("due -1", x.bag(0, 1, 1, 0, -1), -1);
        Check.due("due 3001", x.bag(0, 1, 1, 0, 3001), -1);
        Check.due("the least bag", x.bag(0, 1, 1, 0, 0), 0);
        Check.due("the most bag", x.bag(1, 0, 500, 9, 3000), 1);
        for (int i = 2; i < 30; i++) {
            Check.due("bag", x.bag(0, 1, 1, 0, 0), i);
        }
        Check.due("a bag beyond 30", x.bag(0, 1, 1, 0, 0), -1);
        Check.due("bags", x.count(5), 30);
        int[] first = {1, -1, -1, -1, -1, 0};
        for (int what = 0; what < 6; what++) {
            Check.due("where(1, " + what + ") at first", x.where(1, what), first[what]);
        }
        Check.noSuch("where(30, 0)", () -> x.where(30, 0));
        Check.noSuch("where(-1, 0)", () -> x.where(-1, 0));
        Check.noSuch("where(0, 6)", () -> x.where(0, 6));
        Check.noSuch("where(0, -1)", () -> x.where(0, -1));
    }

    private static void trains() {
        AirMail x = land();
        x.leg(1, 2, 21, 0);
        x.step(3);
        x.bag(0, 2, 1, 0, 20);
        x.bag(1, 2, 1, 0, 5);
        Check.due("train of none", x.train(2), -1);
        Check.due("train of -1", x.train(-1), -1);
        Check.due("71 miles, 18 quarters", x.train(0), 21);
        Check.due("21 miles, 6 quarters", x.train(1), 9);
        Check.due("on a train already", x.train(0), -1);
        Check.due("at no field", x.where(0, 0), -1);
        Check.due("on no plane", x.where(0, 1), -1);
        Check.due("its train comes", x.where(0, 2), 21);
        x.step(6);
        Check.due("not yet", x.where(1, 3), -1);
        x.step(1);
        Check.due("given", x.where(1, 3), 9);
        Check.due("no train any more", x.where(1, 2), -1);
        Check.due("at no field when given", x.where(1, 0), -1);
        Check.due("4 late", x.where(1, 4), 4);
        Check.due("given can't go", x.train(1), -1);
        Check.due("one given", x.count(8), 1);
        x.step(12);
        Check.due("the other one", x.where(0, 3), 21);
        Check.due("1 late", x.where(0, 4), 1);
        Check.due("both given", x.count(8), 2);
    }

    private static void settings() {
        AirMail x = new AirMail();
        Check.due("what -1", x.set(-1, 0), -1);
        Check.due("what 3", x.set(3, 0), -1);
        int[] most = {20, 50, 99};
        int[] first = {4, 6, 1};
        for (int what = 0; what < 3; what++) {
            Check.due("below 0", x.set(what, -1), -1);
            Check.due("above", x.set(what, most[what] + 1), -1);
            Check.due("what it was", x.set(what, most[what]), first[what]);
            Check.due("what it was then", x.set(what, 0), most[what]);
        }
    }
}
