/** Promises 29 and 31 to 33: a bag's way, pay by laws, and the coin. */
public final class PayTest {
    public static void main(String[] args) {
        ways();
        longWay();
        lawsByDay();
        judged();
        farAsItIs();
        Check.finish();
    }

    private static void ways() {
        AirMail x = new AirMail();
        x.field(0, true, 0);
        x.field(0, true, 0);
        x.field(0, true, 0);
        x.leg(0, 1, 40, 0);
        x.leg(1, 2, 40, 0);
        x.plane(0, 40, 500, 100, 10, true);
        x.pilot(0, 0);
        Check.force(x, 0, 0, ":G");
        x.step(2);
        x.bag(0, 2, 5, 0, 100);
        Check.due("one step", x.lead(0), 1);
        Check.row("told at 2", x, 2, 0);
        Check.due("lead of none", x.lead(1), -1);
        Check.due("lead of -1", x.lead(-1), -1);
        Check.row("the row stays", x, 2, 0);
        x.flight(0, 0, 0, 3);
        x.step(3);
        Check.due("three steps", x.lead(0), 3);
        Check.row("by plane to 1", x, 2, 0, 3, 100, 3, 1);
        x.train(0);
        Check.due("four steps", x.lead(0), 4);
        Check.row("on a train", x, 2, 0, 3, 100, 3, 1, 5, 200);
        x.step(11);
        Check.due("five steps", x.lead(0), 5);
        Check.row("given", x, 2, 0, 3, 100, 3, 1, 5, 200, 15, 300);
        x.plane(2, 40, 500, 100, 10, true);
        x.pilot(2, 0);
        x.bag(2, 1, 5, 0, 100);
        x.flight(1, 1, 1, 16);
        x.step(1);
        x.lead(1);
        Check.row("on plane 1", x, 16, 2, 16, 101, 16, 300);
    }

    private static void longWay() {
        AirMail x = new AirMail();
        x.field(0, true, 0);
        x.field(0, true, 0);
        x.leg(0, 1, 40, 0);
        x.plane(0, 20, 500, 100, 10, true);
        x.pilot(0, 0);
        Check.force(x, 0, 0, ":G");
        Check.force(x, 1, 0, ":T");
        x.bag(0, 1, 5, 0, 100);
        for (int i = 0; i < 8; i++) {
            x.flight(0, 0, 0, i);
        }
        x.step(7);
        Check.due("fifteen steps", x.lead(0), 15);
        Check.due("numbers", x.count(10), 30);
        x.step(1);
        Check.due("sixteen at most", x.lead(0), 16);
        Check.due("numbers", x.count(10), 32);
        Check.due("the sixteenth quarter", x.row(30), 7);
        Check.due("the sixteenth place", x.row(31), 100);
        Check.noSuch("row(32)", () -> x.row(32));
        Check.noSuch("row(-1)", () -> x.row(-1));
    }

    /** Bags that are given by train at quarters 95, 96 and 200; of weights 1, 2, 3. */
    private static AirMail threeBags() {
        AirMail x = new AirMail();
        x.field(0, true, 0);
        x.field(0, true, 0);
        x.leg(0, 1, 40, 0);
        int[] at = {95, 96, 200};
        for (int i = 0; i < 3; i++) {
            x.step(at[i] - 10 - x.count(0));
            x.bag(0, 1, i + 1, 2 * i, 90);
            x.train(i);
        }
        x.step(11);
        return x;
    }

    private static void lawsByDay() {
        AirMail x = threeBags();
        Check.due("given", x.count(8), 3);
        Check.due("without laws", x.coin(), 0);
        Check.due("law from day 1", Check.force(x, 2, 1, "w*100"), 1);
        Check.due("day 0 has none", x.where(0, 5), 0);
        Check.due("day 1", x.where(1, 5), 200);
        Check.due("day 2", x.where(2, 5), 300);
        Check.due("law from day 2", Check.force(x, 2, 2, "d*900+t"), 2);
        Check.due("day 1 still", x.where(1, 5), 200);
        Check.due("day 2 then", x.where(2, 5), 1910);
        Check.due("law from day 1 again", Check.force(x, 2, 1, "s"), 3);
        Check.due("of equal ones the last", x.where(1, 5), 2);
        Check.due("day 2 stays", x.where(2, 5), 1910);
        Check.due("law from day 0", Check.force(x, 2, 0, "0-5"), 4);
        Check.due("0 at least", x.where(0, 5), 0);
        Check.due("coin", x.coin(), 1912);
        Check.due("law from day 3", Check.force(x, 2, 3, "999"), 5);
        Check.due("not in force", x.coin(), 1912);
    }

    private static void judged() {
        AirMail x = threeBags();
        x.bag(0, 1, 500, 0, 0);
        Check.due("judge without laws", x.judge(0), -1);
        Check.due("judge(-1)", x.judge(-1), -1);
        Check.force(x, 2, 50, "w");
        Check.force(x, 2, 0, "2-w");
        Check.force(x, 2, 99, "d>0?d:7");
        Check.due("as if from day 0 on", x.judge(0), 6);
        Check.due("0 at least, bag by bag", x.judge(1), 1);
        Check.due("the day of each", x.judge(2), 10);
        Check.due("judge(3)", x.judge(3), -1);
        Check.due("the coin is by the laws in force", x.coin(), 1);
        AirMail big = threeBags();
        Check.force(big, 2, 0, "999*999*999");
        Check.due("sums go round as ints do", big.judge(0), 999 * 999 * 999 * 3);
        Check.due("so does the coin", big.coin(), 999 * 999 * 999 * 3);
    }

    private static void farAsItIs() {
        AirMail x = threeBags();
        Check.force(x, 2, 0, "m");
        Check.due("40 miles", x.where(0, 5), 40);
        x.leg(1, 0, 10, 0);
        Check.due("10 miles now", x.where(0, 5), 10);
    }
}
