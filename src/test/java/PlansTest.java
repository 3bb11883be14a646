/** Promises 40 to 43: plans and lamps that are tried out, and the row. */
public final class PlansTest {
    public static void main(String[] args) {
        refused();
        tried();
        planned();
        tiesOfPlans();
        onlyTheFirstSix();
        lampsInTime();
        lampsByCoin();
        rowStays();
        Check.finish();
    }

    /** Two fields, 40 miles; a plane of speed 20 with gear; a law that pays 10 times the weight. */
    private static AirMail simple() {
        AirMail x = new AirMail();
        x.field(0, true, 0);
        x.field(0, true, 0);
        x.leg(0, 1, 40, 10);
        x.plane(0, 20, 100, 100, 5, true);
        x.pilot(0, 1);
        Check.force(x, 0, 0, ":G");
        Check.force(x, 2, 0, "w*10-t");
        return x;
    }

    private static void refused() {
        AirMail x = simple();
        x.field(0, false, 0);
        Check.due("plan(-1)", x.plan(-1), -1);
        Check.due("plan(201)", x.plan(201), -1);
        Check.due("tried(-1)", x.tried(-1), -1);
        Check.due("tried(201)", x.tried(201), -1);
        Check.due("lamps(1, -1)", x.lamps(1, -1), -1);
        Check.due("lamps(1, 201)", x.lamps(1, 201), -1);
        Check.due("lamps(-1, 0)", x.lamps(-1, 0), -1);
        Check.due("lamps(3, 0)", x.lamps(3, 0), -1);
        Check.due("one field without a lamp", x.lamps(1, 0), 0);
        Check.due("not two", x.lamps(2, 0), -1);
        Check.row("the row of the last that was not refused", x, 2);
        for (int i = 0; i < 7; i++) {
            x.step(400);
        }
        x.step(1);
        Check.due("NOW and 200 above 3000: plan", x.plan(200), -1);
        Check.due("tried", x.tried(200), -1);
        Check.due("lamps", x.lamps(0, 200), -1);
        Check.due("up to 3000: plan", x.plan(199), 0);
        Check.due("tried", x.tried(199), 0);
        Check.due("lamps", x.lamps(0, 199), 0);
    }

    private static void tried() {
        AirMail x = simple();
        x.bag(0, 1, 50, 0, 100);
        x.bag(1, 0, 30, 0, 20);
        x.flight(0, 0, 0, 30);
        x.flight(0, 0, 0, 34);
        x.train(1);
        Check.due("nothing", x.tried(0), 0);
        Check.due("the train only", x.tried(20), 300);
        Check.due("a quarter aloft", x.tried(31), 299);
        Check.due("landed", x.tried(32), 798);
        Check.due("flown back", x.tried(200), 796);
        Check.due("NOW", x.count(0), 0);
        Check.due("no words", x.count(7), 0);
        Check.due("nothing spent", x.count(9), 0);
        Check.due("waits", x.flown(0, 0), 0);
        Check.due("not asked", x.why(0, 0), -3);
        Check.due("at its field", x.of(0, 0), 0);
        Check.due("used", x.of(0, 5), 0);
        Check.due("flown", x.who(0, 2), 0);
        Check.due("the bag", x.lead(0), 1);
        Check.due("the train", x.where(1, 2), 10);
        Check.due("no row of its own", x.count(10), 2);
        x.step(31);
        Check.due("as it came", x.coin(), 299);
        Check.due("from here", x.tried(1), 798);
        Check.due("still aloft", x.of(0, 2), 20);
        Check.due("tank", x.of(0, 6), 4);
        x.step(1);
        Check.due("the same", x.coin(), 798);
        AirMail y = simple();
        y.engine(0, 0, 400, 1);
        y.flight(0, 0, 0, 30);
        Check.due("it will fail", y.tried(100), -1);
        Check.due("and is not down", y.count(12), 0);
        Check.due("nor forced", y.flown(0, 0), 0);
    }

    private static void planned() {
        AirMail x = simple();
        x.bag(0, 1, 50, 0, 100);
        x.flight(0, 0, 0, 30);
        x.flight(0, 0, 0, 40);
        x.flight(0, 0, 0, 50);
        Check.due("one there is best", x.plan(100), 498);
        Check.row("the first of equal ones", x, 1);
        x.bag(1, 0, 60, 0, 100);
        Check.due("there and back", x.plan(100), 1096);
        Check.row("the first two", x, 3);
        Check.due("too short for the way back", x.plan(35), 498);
        Check.row("the first", x, 1);
        Check.due("too short for all", x.plan(30), 0);
        Check.row("none", x, 0);
        Check.due("all wait still", x.may(2), 0);
        x.cancel(1);
        Check.due("bits are of those that wait", x.plan(100), 1096);
        Check.row("the first and the last", x, 3);
        x.set(2, 99);
        Check.due("dear quarters", x.plan(100), 1100 - 4 * 99);
        AirMail none = simple();
        Check.due("no flights", none.plan(10), 0);
        Check.row("no bits", none, 0);
        AirMail loss = simple();
        loss.flight(0, 0, 0, 0);
        loss.step(1);
        Check.due("below 0, too", loss.plan(10), -2);
        Check.row("with its row", loss, 0);
    }

    private static void tiesOfPlans() {
        AirMail x = simple();
        x.set(2, 0);
        x.plane(0, 20, 100, 100, 5, true);
        x.pilot(0, 1);
        x.bag(0, 1, 50, 0, 100);
        x.flight(0, 0, 0, 40);
        x.flight(1, 1, 0, 30);
        Check.due("either will do", x.plan(100), 500);
        Check.row("the fewest, the least bits", x, 1);
        x.bag(0, 1, 100, 0, 100);
        Check.due("both", x.plan(100), 1500);
        Check.row("both bits", x, 3);
    }

    private static void onlyTheFirstSix() {
        AirMail x = simple();
        for (int i = 0; i < 7; i++) {
            x.flight(0, 0, 0, 30 + 4 * i);
        }
        x.bag(0, 1, 50, 0, 100);
        // the seventh stays as it is: it flies and takes the bag
        Check.due("the seventh flies anyway", x.plan(100), 498);
        Check.row("none of the six", x, 0);
        x.bag(1, 0, 50, 0, 100);
        Check.due("one there, the seventh back", x.plan(100), 996);
        Check.row("the first of them", x, 1);
    }

    /** Planes that land by night at 1 and 2, from where they are to go on at once. */
    private static AirMail night() {
        AirMail x = new AirMail();
        x.field(0, true, 0);
        for (int i = 0; i < 3; i++) {
            x.field(0, false, 0);
        }
        x.field(0, true, 0);
        x.leg(0, 1, 20, 0);
        x.leg(1, 4, 20, 0);
        x.leg(0, 2, 20, 0);
        x.leg(2, 4, 20, 0);
        for (int i = 0; i < 2; i++) {
            x.plane(0, 20, 100, 100, 5, true);
            x.pilot(0, 0);
            x.flight(i, i, 2 * i, 0);
            x.flight(i, i, 2 * i + 1, 1);
        }
        Check.force(x, 0, 0, ":G");
        return x;
    }

    private static void lampsInTime() {
        AirMail x = night();
        x.bag(1, 4, 10, 0, 5);
        x.bag(2, 4, 10, 0, 0);
        x.bag(0, 1, 10, 0, 0);
        Check.due("without lamps", x.lamps(0, 5), 1);
        Check.row("no field", x);
        Check.due("at 1", x.lamps(1, 5), 2);
        Check.row("field 1", x, 1);
        Check.due("the one at 2 would be late", x.lamps(2, 5), 2);
        Check.row("and a flight more would cost", x, 1, 3);
        x.bag(2, 4, 10, 0, 1);
        Check.due("two lamps, two bags", x.lamps(2, 5), 3);
        Check.row("fields 1 and 2", x, 1, 2);
        Check.due("one lamp", x.lamps(1, 5), 2);
        Check.row("either, so the first", x, 1);
        x.bag(2, 4, 10, 0, 1);
        Check.due("two bags at 2", x.lamps(1, 5), 3);
        Check.row("field 2", x, 2);
        x.step(5);
        Check.due("given already counts", x.lamps(1, 0), 1);
        Check.due("nothing was lit", x.of(0, 4), 1);
        AirMail dark = night();
        dark.lamps(2, 5);
        dark.step(5);
        Check.due("nothing stays lit", dark.of(0, 4), 1);
        dark.lamps(1, 5);
        Check.row("of equal ones the first", dark, 1);
    }

    private static void lampsByCoin() {
        AirMail x = night();
        Check.force(x, 2, 0, "w");
        x.bag(1, 4, 10, 0, 0);
        x.bag(2, 4, 11, 0, 0);
        Check.due("both late, so the coin", x.lamps(1, 5), 0);
        Check.row("field 2", x, 2);
        AirMail y = night();
        // nothing to carry: each flight that goes on costs, so a lamp at 3 is best
        Check.due("none", y.lamps(1, 5), 0);
        Check.row("field 3", y, 3);
        Check.due("none", y.lamps(2, 5), 0);
        Check.row("the first row of equal ones", y, 1, 3);
    }

    private static void rowStays() {
        AirMail x = simple();
        x.bag(0, 1, 50, 0, 100);
        x.lead(0);
        x.plan(201);
        x.lamps(1, 1);
        x.lead(7);
        x.judge(7);
        x.why(0, 0);
        x.force(9, 9);
        x.find(0);
        x.coin();
        x.needs();
        x.tried(5);
        Check.row("the row stays", x, 0, 0);
        x.plan(5);
        Check.row("the plan's row", x, 0);
        x.send();
        Check.row("an empty one", x);
        Check.noSuch("row(-1)", () -> x.row(-1));
    }
}
