/** Worlds in which something of everything goes on, for tests of calls that must not change them. */
final class Worlds {
    static final int NOW = 34;
    static final int FIELDS = 4;
    static final int LEGS = 5;
    static final int PLANES = 5;
    static final int PILOTS = 5;
    static final int BAGS = 7;
    static final int FLIGHTS = 7;
    static final int LAWS = 2;
    static final int SIGNS = 3;
    static final int ROW = 6;

    static final int ALOFT = 0;
    static final int DOWN = 1;
    static final int SENT_FOR = 2;
    static final int WORN = 4;

    private Worlds() {
    }

    /**
     * Quarter 34: plane 0 is aloft with a bag, 1 down with another one and was looked for once, 2 and 3 are sent for,
     * 4 needs a spare. Bag 1 is on a train, 3 given, 4 on plane 1, 5 on plane 0, the others are at fields. Flights 0, 4
     * and 6 wait. THE TEXT has three signs, the ROW six numbers.
     */
    static void busy(AirMail x) {
        land(x);
        fleet(x);
        Check.force(x, 0, 0, "c+999:G");
        Check.force(x, 1, 0, "c<0&!k:T;f<1:L;:G");
        Check.force(x, 0, 100, ":W");
        Check.force(x, 2, 0, "w*m");
        Check.force(x, 2, 1, "w-t");
        x.bag(0, 3, 100, 1, 60);
        x.flight(0, 0, 0, 60);
        x.flight(3, 2, 3, 0);
        x.bag(1, 2, 10, 3, 100);
        x.bag(1, 3, 11, 3, 101);
        x.bag(2, 3, 20, 0, 5);
        x.step(30);
        x.bag(0, 1, 50, 0, 40);
        x.engine(1, 100, 400, 102);
        x.flight(1, 1, 4, 30);
        x.step(2);
        x.look(1, 3, 50);
        x.bag(0, 1, 60, 0, 41);
        x.flight(0, 0, 0, 32);
        x.step(2);
        x.bag(2, 0, 40, 1, 90);
        x.engine(2, 400, 400, 0);
        x.send();
        x.engine(4, 400, 400, 3);
        x.train(1);
        x.flight(3, 2, 3, 40);
        x.flight(2, 3, 1, 50);
        x.cancel(5);
        x.flight(2, 3, 1, 45);
        x.lead(3);
        x.end(0);
        x.sign(0x633A4700);
        x.end(SIGNS);
    }

    private static void land(AirMail x) {
        x.field(10, true, 1);
        x.field(20, false, 0);
        x.field(0, true, 9);
        x.field(99, false, 0);
        x.leg(0, 1, 100, 50);
        x.leg(1, 2, 60, 30);
        x.leg(0, 2, 150, 20);
        x.leg(2, 3, 40, 0);
        x.leg(0, 1, 120, 60);
        x.ground(0, 30, 2);
        x.ground(0, 44, 0);
        x.ground(2, 70, 1);
        x.weather(1, 0, 120, 0);
        x.weather(2, 20, 60, -3);
        x.weather(0, 30, 150, 2);
        x.set(0, 0);
        x.word(0, 0, 0, 100, 1);
        x.word(0, 4, 0, 90, -1);
        x.set(0, 5);
        x.set(1, 7);
        x.set(2, 3);
    }

    private static void fleet(AirMail x) {
        x.plane(0, 20, 500, 100, 10, true);
        x.plane(0, 30, 800, 120, 8, true);
        x.plane(1, 25, 600, 110, 6, false);
        x.plane(2, 40, 900, 150, 20, true);
        x.plane(2, 10, 700, 100, 30, true);
        x.pilot(0, 31);
        x.pilot(0, 0);
        x.pilot(2, 8);
        x.pilot(1, 0);
        x.pilot(2, 0);
    }
}
