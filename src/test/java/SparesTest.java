import java.util.Random;

/** Promises 38 and 39: planes that need a spare, and spares that are sent. */
public final class SparesTest {
    public static void main(String[] args) {
        needs();
        sent();
        mostPlanesFirst();
        lessFieldFirst();
        noneBehindAll();
        eightOfEight();
        againstAllShares();
        Check.finish();
    }

    private static void worn(AirMail x, int plane) {
        Check.due("worn out", x.engine(plane, 400, 400, 7), true);
    }

    private static void needs() {
        AirMail x = new AirMail();
        x.field(0, true, 1);
        x.field(0, true, 0);
        x.leg(0, 1, 100, 0);
        x.plane(0, 20, 500, 100, 10, true);
        x.pilot(0, 0);
        Check.due("none", x.needs(), 0);
        x.engine(0, 399, 400, 0);
        Check.due("not yet", x.needs(), 0);
        x.engine(0, 398, 400, 0);
        Check.force(x, 0, 0, ":G");
        x.flight(0, 0, 0, 30);
        x.step(32);
        Check.due("used up aloft", x.of(0, 5), 400);
        Check.due("but not at a field", x.needs(), 0);
        Check.due("nothing to send", x.send(), 0);
        Check.row("an empty row", x);
        x.step(3);
        Check.due("at a field", x.needs(), 1);
        Check.due("13 quarters", x.send(), 13);
        Check.row("from 0", x, 0);
        Check.due("used 0", x.of(0, 5), 0);
        Check.due("ready at 48", x.of(0, 7), 48);
        Check.due("sent for", x.needs(), 0);
        x.engine(0, 400, 400, 0);
        Check.due("used again, but not ready", x.needs(), 0);
        x.step(12);
        Check.due("not ready yet", x.needs(), 0);
        x.step(1);
        Check.due("ready, so it needs one", x.needs(), 1);
        Check.due("none left", x.send(), 0);
        Check.row("from nowhere", x, -1);
        Check.due("it needs it still", x.needs(), 1);
    }

    private static void sent() {
        AirMail x = new AirMail();
        x.field(0, true, 1);
        x.plane(0, 20, 500, 100, 10, true);
        x.field(0, true, 0);
        x.leg(0, 1, 10, 0);
        x.pilot(0, 0);
        Check.force(x, 0, 0, ":G");
        worn(x, 0);
        Check.due("at the same field", x.send(), 0);
        Check.row("from 0", x, 0);
        Check.due("ready now", x.of(0, 7), 0);
        x.flight(0, 0, 0, 0);
        Check.due("it may start", x.may(0), 0);
        // it would fail at 7, if FAILS had stayed
        x.engine(0, 400, 400, 401);
        Check.due("no spare left", x.send(), 0);
        Check.row("none", x, -1);
        Check.due("nothing changed", x.of(0, 5), 400);
        AirMail y = new AirMail();
        y.field(0, true, 9);
        y.field(0, true, 0);
        y.leg(0, 1, 100, 0);
        y.plane(0, 20, 500, 100, 10, true);
        y.pilot(0, 0);
        Check.force(y, 0, 0, ":G");
        y.engine(0, 5, 5, 2);
        y.send();
        y.flight(0, 0, 0, 30);
        y.step(34);
        Check.due("it never fails", y.flown(0, 0), 1);
        y.engine(0, 4, 5, 0);
        y.step(1);
        Check.due("landed, used up by the old DUE", y.needs(), 1);
    }

    private static void mostPlanesFirst() {
        AirMail x = new AirMail();
        x.field(0, true, 1);
        x.field(0, true, 1);
        x.field(0, true, 0);
        x.field(0, true, 1);
        x.leg(0, 1, 8 * 3, 0);
        x.leg(1, 2, 8 * 9, 0);
        x.plane(1, 20, 500, 100, 10, true);
        x.plane(2, 20, 500, 100, 10, true);
        x.plane(1, 20, 500, 100, 10, true);
        worn(x, 0);
        worn(x, 1);
        worn(x, 2);
        // field 3 is cut off: two spares for three planes; 0 and 3 quarters at field 1
        Check.due("least sum", x.send(), 3);
        Check.row("of equal ones the less field for the first", x, 0, -1, 1);
    }

    private static void lessFieldFirst() {
        AirMail x = new AirMail();
        for (int i = 0; i < 4; i++) {
            x.field(0, true, i < 3 ? 1 : 0);
        }
        for (int i = 0; i < 3; i++) {
            x.leg(i, 3, 16, 0);
        }
        for (int i = 0; i < 3; i++) {
            x.plane(3, 20, 500, 100, 10, true);
        }
        worn(x, 0);
        worn(x, 2);
        Check.due("two of three", x.send(), 4);
        Check.row("fields in order", x, 0, 1);
        Check.due("ready", x.of(2, 7), 2);
        worn(x, 1);
        Check.due("the last spare", x.send(), 2);
        Check.row("of field 2", x, 2);
    }

    private static void noneBehindAll() {
        AirMail x = new AirMail();
        x.field(0, true, 0);
        x.field(0, true, 1);
        x.leg(0, 1, 100, 0);
        x.plane(0, 20, 500, 100, 10, true);
        x.plane(0, 20, 500, 100, 10, true);
        worn(x, 0);
        worn(x, 1);
        Check.due("one for two", x.send(), 13);
        Check.row("the first has it", x, 1, -1);
        Check.due("the other needs it still", x.needs(), 1);
    }

    private static void eightOfEight() {
        AirMail x = new AirMail();
        for (int i = 0; i < 8; i++) {
            x.field(0, true, i == 7 ? 0 : 1);
        }
        for (int i = 0; i < 7; i++) {
            x.leg(i, i + 1, 400, 0);
        }
        for (int i = 0; i < 8; i++) {
            x.plane(i == 7 ? 6 : i, 20, 500, 100, 10, true);
            worn(x, i);
        }
        Check.due("each has its own but one", x.send(), 0);
        Check.row("the first at field 6", x, 0, 1, 2, 3, 4, 5, 6, -1);
        AirMail y = new AirMail();
        for (int i = 0; i < 8; i++) {
            y.field(0, true, i == 7 ? 9 : 0);
        }
        for (int i = 0; i < 7; i++) {
            y.leg(i, i + 1, 400, 0);
        }
        for (int i = 0; i < 8; i++) {
            y.plane(0, 20, 500, 100, 10, true);
            worn(y, i);
        }
        Check.due("the longest way for all", y.send(), 8 * 350);
        Check.row("all of field 7", y, 7, 7, 7, 7, 7, 7, 7, 7);
        worn(y, 0);
        y.step(350);
        Check.due("one left", y.send(), 350);
        Check.row("for plane 0", y, 7);
    }

    /** All shares of chance lands, tried one by one. */
    private static void againstAllShares() {
        Random r = new Random(7);
        for (int run = 0; run < 200; run++) {
            AirMail x = new AirMail();
            Model m = new Model();
            int fields = 2 + r.nextInt(7);
            for (int i = 0; i < fields; i++) {
                int spares = r.nextInt(4) == 0 ? r.nextInt(10) : r.nextInt(2);
                x.field(0, true, spares);
                m.field(0, true, spares);
            }
            for (int i = 0; i < 10; i++) {
                int a = r.nextInt(fields);
                int b = r.nextInt(fields);
                int miles = r.nextBoolean() ? 16 : 10 + r.nextInt(391);
                x.leg(a, b, miles, 0);
                m.leg(a, b, miles, 0);
            }
            int planes = 1 + r.nextInt(run % 20 == 0 ? 8 : 5);
            for (int i = 0; i < planes; i++) {
                int at = r.nextInt(fields);
                x.plane(at, 20, 500, 100, 10, true);
                m.plane(at, 20, 500, 100, 10, true);
                int used = r.nextInt(5) == 0 ? 1 : 400;
                x.engine(i, used, 400, 0);
                m.engine(i, used, 400, 0);
            }
            Check.due("sent", x.send(), m.send());
            Check.due("row", x.count(10), m.count(10));
            for (int i = 0; i < m.count(10); i++) {
                Check.due("row(" + i + ") of run " + run, x.row(i), m.row(i));
            }
        }
    }
}
