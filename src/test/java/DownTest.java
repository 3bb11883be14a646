/** Promises 34 to 37: planes that are down, looks and chances. */
public final class DownTest {
    public static void main(String[] args) {
        found();
        foundGives();
        looks();
        chances();
        fromTheSecondField();
        evenChances();
        lanes();
        Check.finish();
    }

    /** A plane that is down at mile 40 of a leg of so many miles from the first field, at quarter 32. */
    private static AirMail down(int miles, int speed, int tank) {
        AirMail x = new AirMail();
        x.field(0, true, 0);
        x.field(0, true, 0);
        x.leg(0, 1, miles, 0);
        x.plane(0, speed, 500, 100, tank, true);
        x.pilot(0, 0);
        Check.force(x, 0, 0, ":G");
        Check.force(x, 1, 0, "h=3:L");
        x.bag(0, 1, 5, 0, 100);
        x.flight(0, 0, 0, 30);
        x.step(33);
        Check.due("down", x.of(0, 3), 1);
        return x;
    }

    private static void found() {
        AirMail x = down(80, 20, 10);
        Check.due("find none", x.find(1), -1);
        Check.due("find -1", x.find(-1), -1);
        x.step(2);
        Check.due("of equal ones the first field", x.find(0), 0);
        int[] of = {0, -1, -1, 0, 4, 3, 0, 0, 0, -1, -1};
        for (int what = 0; what < of.length; what++) {
            Check.due("found: of(0, " + what + ")", x.of(0, what), of[what]);
        }
        Check.due("pilot", x.who(0, 0), 0);
        Check.due("with no plane", x.who(0, 1), -1);
        Check.due("bag", x.where(0, 0), 0);
        x.lead(0);
        Check.row("its way", x, 0, 0, 30, 100, 35, 0);
        Check.due("not down any more", x.find(0), -1);
        Check.due("none is", x.count(12), 0);
        Check.due("the flight was forced down", x.flown(0, 0), 4);
    }

    private static void foundGives() {
        AirMail x = down(79, 20, 10);
        Check.due("the nearer field", x.find(0), 1);
        Check.due("given now", x.where(0, 3), 33);
        Check.due("81 miles", down(81, 20, 10).find(0), 0);
    }

    private static void looks() {
        AirMail x = down(100, 20, 10);
        Check.due("look for none", x.look(1, 0, 50), -1);
        Check.due("cell -1", x.look(0, -1, 50), -1);
        Check.due("cell 11", x.look(0, 11, 50), -1);
        Check.due("sight 0", x.look(0, 0, 0), -1);
        Check.due("sight 100", x.look(0, 0, 100), -1);
        Check.due("the last cell", x.look(0, 10, 99), 1);
        Check.due("a second look", x.look(0, 0, 1), 2);
        Check.due("a third look", x.look(0, 2, 20), 3);
        Check.due("a fourth look", x.look(0, 2, 20), 4);
        Check.due("no fifth look", x.look(0, 2, 20), -1);
        // 1, 1, 1 and 64 by 100
        Check.due("64 of 364", x.chance(0, 2, 0), 16);
        Check.due("in lowest terms", x.chance(0, 2, 1), 91);
        x.find(0);
        Check.due("it is not down", x.look(0, 2, 20), -1);
        Check.noSuch("nor is there a chance", () -> x.chance(0, 2, 0));
        Check.due("nor lanes", x.lanes(0, 1, 1), -1);
        x.engine(0, 0, 400, 0);
        AirMail y = down(100, 20, 10);
        y.look(0, 4, 50);
        y.find(0);
        y.field(0, true, 1);
        y.leg(0, 2, 10, 0);
        y.send();
        y.step(80);
        y.flight(0, 0, 0, 113);
        y.step(3);
        Check.due("down again", y.of(0, 3), 1);
        Check.due("nobody looked yet", y.chance(0, 4, 1), 4);
        Check.due("the first look again", y.look(0, 4, 50), 1);
    }

    private static void chances() {
        AirMail x = down(95, 15, 5);
        // 15, 30, 45, 60, 75: cells 1, 3, 4, 6, 7
        int[] is = {0, 1, 0, 1, 1, 0, 1, 1, 0, 0};
        for (int cell = 0; cell < 10; cell++) {
            Check.due("numerator of " + cell, x.chance(0, cell, 0), is[cell]);
            Check.due("denominator of " + cell, x.chance(0, cell, 1), is[cell] == 1 ? 5 : 1);
        }
        Check.noSuch("cell 10 of 95 miles", () -> x.chance(0, 10, 0));
        Check.noSuch("cell -1", () -> x.chance(0, -1, 0));
        Check.noSuch("what 2", () -> x.chance(0, 0, 2));
        Check.noSuch("what -1", () -> x.chance(0, 0, -1));
        Check.noSuch("plane 1", () -> x.chance(1, 0, 0));
        Check.noSuch("plane -1", () -> x.chance(-1, 0, 0));
        AirMail slow = down(100, 6, 60);
        // 6, 12, 18, .. 96: 6; 12, 18; 24; 30, 36; 42, 48; 54; 60, 66; 72, 78; 84; 90, 96; none at 100
        int[] many = {1, 2, 1, 2, 2, 1, 2, 2, 1, 2, 0};
        for (int cell = 0; cell < 11; cell++) {
            int n = many[cell];
            Check.due("numerator", slow.chance(0, cell, 0), n == 2 ? 1 : n);
            Check.due("denominator", slow.chance(0, cell, 1), n == 2 ? 8 : n == 1 ? 16 : 1);
        }
        AirMail looked = down(100, 20, 10);
        looked.look(0, 2, 99);
        looked.look(0, 4, 99);
        looked.look(0, 4, 98);
        looked.look(0, 6, 97);
        // 100, 2, 300 and 10000 parts of 10000
        Check.due("cell 2", looked.chance(0, 2, 0), 50);
        Check.due("of 5201", looked.chance(0, 2, 1), 5201);
        Check.due("cell 4", looked.chance(0, 4, 0), 1);
        Check.due("cell 6", looked.chance(0, 6, 0), 150);
        Check.due("cell 8", looked.chance(0, 8, 0), 5000);
        Check.due("of 5201 too", looked.chance(0, 8, 1), 5201);
    }

    private static void fromTheSecondField() {
        AirMail x = new AirMail();
        x.field(0, true, 0);
        x.field(0, true, 0);
        x.leg(0, 1, 95, 0);
        x.plane(1, 20, 500, 100, 10, true);
        x.pilot(1, 0);
        Check.force(x, 0, 0, ":G");
        Check.force(x, 1, 0, ":L");
        x.flight(0, 0, 0, 30);
        x.step(31);
        Check.due("down where it started", x.of(0, 2), 95);
        // 75, 55, 35, 15
        Check.due("cell 7", x.chance(0, 7, 1), 4);
        Check.due("cell 5", x.chance(0, 5, 0), 1);
        Check.due("cell 3", x.chance(0, 3, 0), 1);
        Check.due("cell 1", x.chance(0, 1, 0), 1);
        Check.due("cell 9", x.chance(0, 9, 0), 0);
        Check.due("found at the second field", x.find(0), 1);
    }

    private static void evenChances() {
        AirMail x = new AirMail();
        x.field(0, true, 0);
        x.field(0, true, 0);
        x.leg(0, 1, 30, 0);
        x.plane(0, 30, 500, 100, 10, true);
        x.pilot(0, 0);
        Check.force(x, 0, 0, ":G");
        Check.force(x, 1, 0, ":L");
        x.flight(0, 0, 0, 30);
        x.step(31);
        Check.due("1 each of four", x.chance(0, 3, 0), 1);
        Check.due("four cells", x.chance(0, 3, 1), 4);
        x.look(0, 3, 50);
        Check.due("1 of 7", x.chance(0, 3, 1), 7);
        Check.due("2 of 7", x.chance(0, 0, 0), 2);
        Check.due("the first cells", x.lanes(0, 9, 9), 1);
        x.look(0, 0, 40);
        Check.due("the likelier to the better", x.lanes(0, 9, 10), 102);
    }

    private static void lanes() {
        AirMail x = down(100, 20, 10);
        Check.due("of equal ones the less of p's, then of q's", x.lanes(0, 60, 60), 204);
        Check.due("so too for unlike sights", x.lanes(0, 1, 99), 204);
        Check.due("p 0", x.lanes(0, 0, 50), -1);
        Check.due("p 100", x.lanes(0, 100, 50), -1);
        Check.due("q 0", x.lanes(0, 50, 0), -1);
        Check.due("q 100", x.lanes(0, 50, 100), -1);
        Check.due("plane 1", x.lanes(1, 50, 50), -1);
        Check.due("plane -1", x.lanes(-1, 50, 50), -1);
        x.look(0, 2, 50);
        x.look(0, 4, 25);
        x.look(0, 6, 10);
        Check.due("the best to p", x.lanes(0, 60, 50), 806);
        Check.due("the best to q", x.lanes(0, 50, 60), 608);
        Check.due("of equal ones p's less", x.lanes(0, 50, 50), 608);
    }
}
