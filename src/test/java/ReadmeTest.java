/** The example of README.md, call by call. */
public final class ReadmeTest {
    public static void main(String[] args) {
        AirMail mail = new AirMail();
        int a = mail.field(10, true, 1);
        int b = mail.field(20, false, 0);
        int leg = mail.leg(a, b, 100, 50);
        int plane = mail.plane(a, 20, 500, 100, 10, false);
        int pilot = mail.pilot(a, 1);
        int bag = mail.bag(a, b, 300, 0, 50);
        Check.due("sign(\":G\")", mail.sign(0x3A470000), 4);
        Check.due("end(2)", mail.end(2), true);
        Check.due("force(0, 0)", mail.force(0, 0), 1);
        int flight = mail.flight(plane, pilot, leg, 30);
        Check.due("step(35)", mail.step(35), 35);
        Check.due("where(bag, 3)", mail.where(bag, 3), 34);
        Check.due("flown(flight, 0)", mail.flown(flight, 0), 2);
        Check.due("sign(\"w*m\")", mail.sign(0x772A6D00), 4);
        Check.due("end(3)", mail.end(3), true);
        Check.due("force(2, 0)", mail.force(2, 0), 1);
        Check.due("coin()", mail.coin(), 29995);
        Check.due("lead(bag)", mail.lead(bag), 3);
        Check.row("lead(bag)", mail, 0, 0, 30, 100, 34, 300);
        Check.finish();
    }
}
