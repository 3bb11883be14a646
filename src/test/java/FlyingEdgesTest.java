/** The edges of what goes on from quarter to quarter (Terms 1 to 4): the last case here and the first one there. */
public final class FlyingEdgesTest {
    /** The first and the last quarters of days and nights. */
    private static final int[] QUARTERS = {0, 23, 24, 71, 72, 95, 96, 119, 120, 167, 168};
    private static final boolean[] NIGHTS = {true, true, false, false, true, true, true, true, false, false, true};

    public static void main(String[] args) {
        nights();
        fits();
        usedAndTop();
        hindrancesInOrder();
        hindrancesByNight();
        engineDue();
        fails();
        beyondDue();
        miles();
        leastMile();
        tanks();
        glides();
        groundsInAnyOrder();
        cloudAndPass();
        waiting();
        firstDay();
        rulesFromAQuarter();
        noLineAloft();
        ages();
        wordsByLag();
        wordsByLeg();
        waysAlike();
        bagsInOrder();
        legToldBackward();
        greaterAndLessFields();
        lastQuarter();
        rates();
        Check.finish();
    }

    /** Two fields, both with a lamp, one leg; a plane at each with a pilot who knows nothing; all may start. */
    private static AirMail land(int miles, int pass, int speed, int tank) {
        AirMail x = new AirMail();
        x.field(0, true, 0);
        x.field(0, true, 0);
        x.leg(0, 1, miles, pass);
        for (int i = 0; i < 2; i++) {
            x.plane(i, speed, 3000, 250, tank, true);
            x.pilot(i, 0);
        }
        Check.force(x, 0, 0, ":G");
        return x;
    }

    private static void stepTo(AirMail x, int quarter) {
        while (x.count(0) < quarter) {
            x.step(Math.min(400, quarter - x.count(0)));
        }
    }

    private static void nights() {
        for (int i = 0; i < QUARTERS.length; i++) {
            int night = NIGHTS[i] ? 1 : 0;
            int q = QUARTERS[i];
            AirMail x = land(100, 0, 20, 10);
            stepTo(x, q);
            Check.force(x, 0, q, "n=" + night + ":G");
            Check.force(x, 1, q, "n=" + night + ":L;:G");
            x.flight(0, 0, 0, q);
            Check.due("n at START at " + q, x.may(0), 0);
            x.step(1);
            Check.due("n ALOFT at " + q, x.why(0, 1), 0);
            Check.due("FORCED at " + q + " beside a ground", x.of(0, 4), 4 + night);
            AirMail y = land(100, 0, 20, 10);
            y.ground(0, 3, 2);
            stepTo(y, q);
            Check.force(y, 1, 0, ":L");
            y.flight(0, 0, 0, q);
            y.step(1);
            Check.due("FORCED at " + q + " on a ground", y.of(0, 4), 2 + night);
            AirMail z = land(10, 0, 20, 10);
            z.lamp(1, false);
            stepTo(z, q);
            z.flight(0, 0, 0, q);
            z.step(1);
            Check.due("landed at " + q + " without a lamp", z.of(0, 4), night);
        }
    }

    /** A plane takes bags of these weights along, as bits. */
    private static void takes(String what, int height, int lift, int top, int pass, int on, int... weights) {
        AirMail x = new AirMail();
        x.field(height, true, 0);
        x.field(99, true, 0);
        x.leg(0, 1, 100, pass);
        x.plane(0, 20, lift, top, 10, true);
        x.pilot(0, 0);
        Check.force(x, 0, 0, ":G");
        for (int weight : weights) {
            x.bag(0, 1, weight, 0, 0);
        }
        x.flight(0, 0, 0, 0);
        x.step(1);
        int bits = 0;
        for (int i = 0; i < weights.length; i++) {
            bits |= x.where(i, 1) == 0 ? 1 << i : 0;
        }
        Check.due(what, bits, on);
        Check.due(what + ": it started", x.flown(0, 0), 1);
    }

    private static void fits() {
        takes("LIFT 100 at HEIGHT 10 carries 50", 10, 100, 250, 0, 1, 50);
        takes("but not 51", 10, 100, 250, 0, 0, 51);
        takes("nor 50 and 1", 10, 100, 250, 0, 1, 50, 1);
        takes("49 and 1", 10, 100, 250, 0, 3, 49, 1);
        takes("what doesn't fit stays, a lighter one behind it goes", 10, 100, 250, 0, 5, 30, 21, 20);
        takes("TOP 61 over a PASS of 60 carries 50", 0, 3000, 61, 60, 1, 50);
        takes("but not 51", 0, 3000, 61, 60, 0, 51);
        takes("TOP 60 over a PASS of 60 carries nothing", 0, 3000, 60, 60, 0, 1);
        takes("TOP 62: 100", 0, 3000, 62, 60, 3, 99, 1);
        takes("the lesser by LIFT", 2, 109, 62, 60, 1, 99, 1);
        takes("the lesser by TOP", 2, 111, 62, 60, 3, 99, 1);
        takes("LIFT 495 at HEIGHT 99 carries nothing", 99, 495, 250, 0, 0, 1);
        takes("LIFT 496 carries 1", 99, 496, 250, 0, 1, 1);
        takes("six bags of 500 by a LIFT of 3000", 0, 3000, 250, 0, 63, 500, 500, 500, 500, 500, 500, 1);
    }

    /** USED counts by 20, cut. */
    private static void usedAndTop() {
        int[] used = {0, 19, 20, 39, 40, 59, 60, 999};
        int[] weight = {100, 100, 50, 50, 0, 0, -1, -1};
        for (int i = 0; i < used.length; i++) {
            AirMail x = new AirMail();
            x.field(0, true, 0);
            x.field(0, true, 0);
            x.leg(0, 1, 100, 100);
            x.plane(0, 20, 3000, 102, 10, true);
            x.pilot(0, 0);
            x.engine(0, used[i], 999, 0);
            Check.force(x, 0, 0, ":G");
            x.bag(0, 1, 50, 0, 0);
            x.bag(0, 1, 50, 0, 0);
            x.flight(0, 0, 0, 0);
            int may = used[i] == 999 ? 4 : weight[i] < 0 ? 6 : 0;
            Check.due("may with USED " + used[i], x.may(0), may);
            x.step(1);
            Check.due("carries with USED " + used[i], x.of(0, 8), Math.max(0, weight[i]));
        }
    }

    /** What keeps a flight from starting is taken away, the first first. */
    private static void hindrancesInOrder() {
        AirMail x = new AirMail();
        x.field(0, true, 0);
        x.field(0, false, 1);
        x.leg(0, 1, 10, 0);
        x.leg(0, 1, 160, 150);
        x.plane(0, 60, 100, 155, 10, true);
        x.plane(0, 60, 100, 154, 10, false);
        x.pilot(0, 0);
        x.pilot(1, 0);
        Check.force(x, 0, 0, ":G");
        x.flight(0, 0, 0, 0);
        x.step(1);
        x.engine(0, 120, 120, 0);
        Check.force(x, 0, 1, ":W");
        x.flight(0, 0, 1, 1);
        x.cancel(x.flight(1, 1, 1, 1));
        Check.due("it is hurt", x.of(0, 4), 1);
        Check.due("2 ahead of 4, 6 and 7", x.may(1), 2);
        x.flight(0, 0, 0, 1);
        x.flight(1, 0, 1, 1);
        Check.due("plane and pilot apart: 1 ahead of 5, 6 and 7", x.may(4), 1);
        x.send();
        x.engine(0, 120, 120, 0);
        Check.due("ready at once, so 4 is the first", x.may(1), 4);
        x.engine(0, 120, 121, 0);
        Check.due("155 less 6 over 150: 6 ahead of 7", x.may(1), 6);
        Check.due("over the lower pass: 7", x.may(3), 7);
        x.engine(0, 119, 121, 0);
        Check.due("155 less 5: 7", x.may(1), 7);
        Check.force(x, 0, 1, ":G");
        Check.due("it would", x.may(1), 0);
    }

    private static void hindrancesByNight() {
        AirMail y = new AirMail();
        y.field(50, true, 1);
        y.field(0, true, 0);
        y.leg(0, 1, 100, 0);
        y.plane(1, 60, 50, 100, 10, false);
        y.plane(0, 60, 249, 100, 10, false);
        y.pilot(1, 0);
        y.pilot(0, 0);
        y.flight(0, 0, 0, 24);
        y.flight(1, 1, 0, 24);
        y.engine(0, 400, 400, 0);
        y.send();
        y.engine(0, 1, 1, 0);
        Check.due("3 ahead of 4, 5 and 7", y.may(0), 3);
        y.step(12);
        Check.due("3 to the last quarter", y.may(0), 3);
        y.step(1);
        Check.due("4 ahead of 5", y.may(0), 4);
        y.engine(0, 0, 1, 0);
        Check.due("5 ahead of 7", y.may(0), 5);
        Check.due("5 ahead of 6", y.may(1), 5);
        y.step(11);
        Check.due("by day 6", y.may(1), 6);
        Check.due("by day 7", y.may(0), 7);
    }

    private static void engineDue() {
        AirMail x = land(100, 0, 20, 10);
        x.flight(0, 0, 0, 0);
        int[][] usedDueMay = {{0, 1, 0}, {1, 1, 4}, {2, 1, 4}, {399, 400, 0}, {400, 400, 4}, {998, 999, 0},
            {999, 999, 4}, {0, 999, 0}};
        for (int[] u : usedDueMay) {
            Check.due("engine", x.engine(0, u[0], u[1], 0), true);
            Check.due("may with USED " + u[0] + ", DUE " + u[1], x.may(0), u[2]);
            Check.due("needs with USED " + u[0] + ", DUE " + u[1], x.needs(), u[2] == 0 ? 0 : 1);
        }
    }

    /** An engine of USED 5 that fails at these is down after so many quarters (0: it lands). */
    private static void fails() {
        int[] at = {0, 1, 5, 6, 7, 10, 11};
        int[] downIn = {0, 0, 0, 1, 2, 5, 0};
        for (int i = 0; i < at.length; i++) {
            AirMail x = land(100, 0, 20, 10);
            x.engine(0, 5, 400, at[i]);
            x.flight(0, 0, 0, 30);
            x.step(40);
            Check.due("FAILS " + at[i], x.flown(0, 0), downIn[i] == 0 ? 2 : 4);
            Check.due("USED then", x.of(0, 5), downIn[i] == 0 ? 10 : 5 + downIn[i]);
            Check.due("mile then", x.of(0, 2), downIn[i] == 0 ? -1 : 20 * (downIn[i] - 1));
            Check.due("quarter then", x.flown(0, 2), 30 + (downIn[i] == 0 ? 4 : downIn[i] - 1));
        }
        AirMail never = land(400, 0, 5, 60);
        never.engine(0, 998, 999, 999);
        never.flight(0, 0, 0, 30);
        never.step(31);
        Check.due("FAILS 999", never.flown(0, 0), 4);
    }

    /** USED goes on beyond DUE and beyond 999, and u below 0. */
    private static void beyondDue() {
        AirMail x = land(100, 0, 20, 10);
        x.engine(0, 998, 999, 0);
        Check.force(x, 1, 0, "u>0:L;u=0:G;u=0-1:G;u<0-1&u>0-4:G;:L");
        x.flight(0, 0, 0, 30);
        int[] lines = {1, 2, 3, 3};
        x.step(30);
        for (int i = 0; i < lines.length; i++) {
            x.step(1);
            Check.due("line at USED " + (999 + i), x.why(0, 1), lines[i]);
            Check.due("USED", x.of(0, 5), 999 + i);
        }
        x.step(1);
        Check.due("u is -4 then", x.why(0, 1), 4);
        Check.due("no ground is needed to be down", x.of(0, 3), 1);
    }

    /** A leg of these miles takes so many quarters at a speed of 20. */
    private static void miles() {
        int[] miles = {10, 19, 20, 21, 40, 41, 99, 100, 101, 400};
        int[] takes = {1, 1, 1, 2, 2, 3, 5, 5, 6, 20};
        for (int i = 0; i < miles.length; i++) {
            for (int plane = 0; plane < 2; plane++) {
                AirMail x = land(miles[i], 0, 20, 60);
                Check.force(x, 0, 0, "g=" + takes[i] + ":G");
                x.flight(plane, plane, 0, 24);
                Check.due("g for " + miles[i] + " miles", x.may(0), 0);
                stepTo(x, 24 + takes[i] - 1);
                Check.due("not there yet", x.of(plane, 0) == 1 - plane, false);
                x.step(1);
                Check.due("there in " + takes[i], x.of(plane, 0), 1 - plane);
                Check.due("at", x.flown(0, 2), 24 + takes[i] - 1);
            }
        }
        AirMail y = land(101, 0, 20, 60);
        Check.force(y, 1, 0, "g=6:G;g=5:G;g=4:G;g=3:G;g=2:G;g=1:G;:L");
        y.flight(0, 0, 0, 24);
        y.step(24);
        for (int line = 0; line < 6; line++) {
            y.step(1);
            Check.due("g aloft", y.why(0, 1), line);
        }
        Check.due("the last mile", y.flown(0, 0), 2);
    }

    private static void leastMile() {
        int[][] speedWindMiles = {{5, -9, 1}, {8, -9, 1}, {9, -9, 1}, {10, -9, 1}, {11, -9, 2}, {5, -4, 1}, {5, -3, 2},
            {5, 0, 5}, {5, 9, 14}, {60, 9, 69}, {60, -9, 51}};
        for (int[] s : speedWindMiles) {
            AirMail x = land(400, 0, s[0], 60);
            x.weather(0, 0, 200, s[1]);
            x.flight(0, 0, 0, 0);
            x.step(1);
            Check.due("miles with the wind " + s[1], x.of(0, 2), s[2]);
            AirMail y = land(400, 0, s[0], 60);
            y.weather(0, 0, 200, -s[1]);
            y.flight(1, 1, 0, 0);
            y.step(1);
            Check.due("miles the other way", y.of(1, 2), 400 - s[2]);
        }
    }

    /** 100 miles at 20 are 5 quarters. */
    private static void tanks() {
        for (int tank = 1; tank <= 6; tank++) {
            AirMail x = land(100, 0, 20, tank);
            Check.force(x, 1, 0, "f=" + (tank - 1) + "&h=1:G;f=0:G;:G");
            x.flight(0, 0, 0, 30);
            x.step(31);
            Check.due("f is one less at once", x.why(0, 1), 0);
            Check.due("the tank too", x.of(0, 6), tank - 1);
            x.step(6);
            Check.due("a TANK of " + tank, x.flown(0, 0), tank >= 5 ? 2 : 4);
            Check.due("down at", x.of(0, 2), tank >= 5 ? -1 : 20 * tank);
            Check.due("in the tank", x.of(0, 6), tank >= 5 ? 0 : -1);
            Check.due("found with an empty one", tank >= 5 || x.find(0) >= 0, true);
            Check.due("at a field 0", x.of(0, 6), 0);
        }
    }

    private static void glides() {
        int[][] glideMileDown = {{0, 100, 100}, {0, 101, 100}, {0, 99, 100}, {1, 101, 101}, {1, 99, 99}, {1, 102, 100},
            {50, 150, 150}, {50, 151, 100}, {50, 50, 50}, {50, 49, 100}, {6, 106, 106}, {6, 107, 100}, {6, 94, 94},
            {6, 93, 100}};
        for (int[] g : glideMileDown) {
            AirMail x = land(200, 0, 50, 10);
            x.ground(0, g[1], 1);
            x.set(1, g[0]);
            Check.force(x, 1, 0, "h=3:L");
            x.flight(0, 0, 0, 30);
            x.step(33);
            Check.due("GLIDE " + g[0] + ", a ground at " + g[1], x.of(0, 2), g[2]);
            Check.due("HURT", x.of(0, 4), g[2] == g[1] ? 1 : 4);
        }
    }

    /** Four grounds in every order in which they can be told: the same one is chosen. */
    private static void groundsInAnyOrder() {
        int[][] least = {{97, 1}, {103, 0}, {98, 2}, {102, 1}};
        int[][] nearest = {{96, 1}, {103, 1}, {100, 2}, {105, 1}};
        int[][] lessMile = {{98, 1}, {102, 1}, {99, 3}, {104, 1}};
        int[][] beyond = {{107, 0}, {93, 0}, {94, 3}, {106, 3}};
        inAnyOrder("the least ROUGH", least, 103, 0);
        inAnyOrder("of equal ones the nearest", nearest, 103, 1);
        inAnyOrder("then the less mile", lessMile, 98, 1);
        inAnyOrder("none beyond GLIDE", beyond, 94, 3);
    }

    private static void inAnyOrder(String what, int[][] grounds, int mile, int hurt) {
        for (int i = 0; i < 24; i++) {
            AirMail x = land(200, 0, 50, 10);
            int left = i;
            int[] order = {0, 1, 2, 3};
            for (int k = 4; k > 0; k--) {
                int at = left % k;
                left /= k;
                x.ground(0, grounds[order[at]][0], grounds[order[at]][1]);
                order[at] = order[k - 1];
            }
            Check.force(x, 1, 0, "h=3:L");
            x.flight(0, 0, 0, 30);
            x.step(33);
            Check.due(what + " (order " + i + ")", x.of(0, 2), mile);
            Check.due(what + " (order " + i + "): HURT", x.of(0, 4), hurt);
        }
    }

    private static void cloudAndPass() {
        int[] clouds = {0, 149, 150, 151, 200};
        for (int cloud : clouds) {
            for (int knows = 0; knows < 2; knows++) {
                AirMail x = land(400, 150, 20, 60);
                x.pilot(0, knows);
                x.weather(0, 0, cloud, 0);
                Check.force(x, 1, 0, "c=" + (cloud - 150 < 0 ? "0-" + (150 - cloud) : cloud - 150) + ":G;:L");
                x.flight(0, 2, 0, 30);
                x.step(31);
                Check.due("c is CLOUD less PASS", x.why(0, 1), 0);
                boolean blind = cloud < 150 && knows == 0;
                Check.due("cloud " + cloud + " at a pass of 150", x.flown(0, 0), blind ? 4 : 1);
            }
        }
        AirMail ground = land(400, 0, 20, 60);
        ground.weather(0, 0, 0, 0);
        ground.flight(0, 0, 0, 30);
        ground.step(31);
        Check.due("cloud 0 at a pass of 0", ground.flown(0, 0), 1);
    }

    /** A flight waits for 16 quarters, and starts in the last of them. */
    private static void waiting() {
        AirMail x = land(100, 0, 20, 10);
        Check.force(x, 0, 0, ":W");
        Check.force(x, 0, 45, ":G");
        x.flight(0, 0, 0, 30);
        x.flight(1, 1, 0, 29);
        x.step(46);
        Check.due("15 ahead: it starts", x.flown(0, 1), 45);
        Check.due("16 ahead: given up", x.flown(1, 0), 3);
        Check.due("never started", x.flown(1, 1), -1);
        Check.due("ended", x.flown(1, 2), 45);
        AirMail y = land(100, 0, 20, 10);
        y.flight(0, 0, 0, 30);
        y.step(30);
        Check.due("ahead of its quarter", y.flown(0, 1), -1);
        Check.due("nor ended", y.flown(0, 2), -1);
        y.step(1);
        Check.due("at its quarter", y.flown(0, 1), 30);
        Check.due("not ended", y.flown(0, 2), -1);
        y.cancel(0);
        Check.due("what flies can't be given up", y.flown(0, 0), 1);
    }

    /** FLOWN begins anew with the first quarter of each day, 0 .. 95. */
    private static void firstDay() {
        int[] starts = {90, 94, 95, 96, 97, 190, 191, 192};
        for (int start : starts) {
            AirMail x = land(400, 0, 20, 60);
            x.flight(0, 0, 0, start);
            stepTo(x, start);
            for (int i = 1; i <= 6; i++) {
                x.step(1);
                int ofDay = (start + i - 1) % 96 + 1;
                Check.due("FLOWN at " + (start + i), x.who(0, 2), Math.min(i, ofDay));
            }
            // 20 quarters are flown, the last one is start + 19
            int dayBegan = (start + 19) / 96 * 96;
            stepTo(x, dayBegan + 96);
            Check.due("as it was when it landed", x.who(0, 2), Math.min(20, start + 20 - dayBegan));
            x.step(1);
            Check.due("0 when the next day has begun", x.who(0, 2), 0);
        }
    }

    private static void rulesFromAQuarter() {
        AirMail x = land(400, 0, 20, 60);
        Check.force(x, 1, 33, "0:G;:L");
        Check.force(x, 1, 31, "0:G;1:G");
        Check.force(x, 0, 30, ":W");
        Check.force(x, 0, 31, "0:G;0:G;:G");
        x.flight(0, 0, 0, 29);
        x.flight(1, 1, 0, 30);
        Check.due("may by the rule of now", x.may(1), 0);
        x.step(30);
        Check.due("the rule of 29", x.why(0, 0), 0);
        Check.due("none aloft at 29", x.why(0, 1), -2);
        Check.due("not asked", x.why(1, 0), -3);
        x.step(1);
        Check.due("the rule of 30", x.why(1, 0), 0);
        Check.due("waits by it", x.flown(1, 0), 0);
        Check.due("none aloft at 30", x.why(0, 1), -2);
        x.step(1);
        Check.due("the rule of 31", x.why(1, 0), 2);
        Check.due("starts by it", x.flown(1, 1), 31);
        Check.due("aloft at 31", x.why(0, 1), 1);
        x.step(1);
        Check.due("aloft at 32", x.why(0, 1), 1);
        x.step(1);
        Check.due("down by the rule of 33", x.flown(0, 2), 33);
        Check.due("its line", x.why(0, 1), 1);
        Check.due("both", x.count(12), 2);
    }

    /** Where none of its lines is true the ALOFT rule says G, and no older rule is asked. */
    private static void noLineAloft() {
        AirMail x = land(100, 0, 20, 10);
        Check.force(x, 1, 0, ":L");
        Check.force(x, 1, 1, "n=0:L;0:T;f<9:L");
        x.flight(0, 0, 0, 1);
        x.step(2);
        Check.due("none of three lines", x.why(0, 1), -2);
        Check.due("it goes", x.of(0, 2), 20);
        x.step(1);
        Check.due("line 2", x.why(0, 1), 2);
        Check.due("down", x.of(0, 3), 1);
        AirMail y = land(100, 0, 20, 10);
        Check.force(y, 0, 0, "0:G");
        y.flight(0, 0, 0, 0);
        y.step(1);
        Check.due("none of its lines at START", y.why(0, 0), -2);
        Check.due("it waits", y.flown(0, 0), 0);
    }

    /** The age of a word: 0 when it is seen now, and as great as it is. */
    private static void ages() {
        AirMail x = land(100, 0, 20, 10);
        x.flight(0, 0, 0, 2500);
        mayBy(x, "a=999&c=0&w=0:G");
        x.step(10);
        x.word(0, 0, 10, 50, 3);
        mayBy(x, "a=0&c=50&w=3:G");
        x.step(1);
        mayBy(x, "a=1:G");
        stepTo(x, 1009);
        mayBy(x, "a=999&c=50:G");
        stepTo(x, 1010);
        mayBy(x, "a=999+1:G");
        stepTo(x, 2010);
        mayBy(x, "a=999+999+2:G");
        x.word(0, 0, 11, 60, 0);
        mayBy(x, "a=999+999+1&c=60:G");
    }

    private static void mayBy(AirMail x, String rule) {
        Check.force(x, 0, x.count(0), rule);
        Check.due("may by " + rule, x.may(0), 0);
    }

    private static void wordsByLag() {
        for (int lag : new int[] {0, 1, 4, 20}) {
            AirMail x = land(20, 0, 20, 10);
            x.set(0, lag);
            x.flight(0, 0, 0, 30);
            x.step(31);
            x.set(0, 20 - lag);
            Check.due("where it landed", x.heard(1, 0, 30, 0), 30);
            Check.noSuch("not ahead of that", () -> x.heard(1, 0, 29, 0));
            Check.due("LAG " + lag, x.heard(0, 0, 30 + lag, 0), 30);
            Check.noSuch("not ahead of LAG " + lag, () -> x.heard(0, 0, 29 + lag, 0));
            x.field(0, true, 0);
            Check.due("at a field told later", x.heard(2, 0, 30 + lag, 0), 30);
            Check.due("to the end", x.heard(2, 0, 3000, 0), 30);
        }
        AirMail y = land(20, 0, 20, 10);
        y.word(0, 0, 0, 1, 1);
        Check.due("at quarter 0", y.heard(0, 0, 0, 1), 1);
        Check.due("of SEEN 0", y.heard(1, 0, 4, 0), 0);
    }

    /** Words of a leg are heard of that leg alone, the greatest SEEN of those that are there. */
    private static void wordsByLeg() {
        AirMail x = land(20, 0, 20, 10);
        x.leg(0, 1, 30, 0);
        x.step(50);
        x.word(0, 1, 40, 11, 1);
        x.word(1, 1, 45, 22, 2);
        x.word(1, 0, 50, 33, 3);
        Check.due("at 0 the older one", x.heard(0, 1, 53, 1), 11);
        Check.due("at 0 the other one by LAG", x.heard(0, 1, 54, 1), 22);
        Check.due("at 1 it is there", x.heard(1, 1, 50, 1), 22);
        Check.due("of leg 0", x.heard(1, 0, 50, 2), 3);
        Check.noSuch("of leg 0 at 0", () -> x.heard(0, 0, 53, 2));
        x.step(10);
        x.word(1, 1, 44, 44, 4);
        Check.due("an older one that comes later", x.heard(1, 1, 60, 1), 22);
        x.word(1, 1, 45, 55, 5);
        Check.due("of equal ones the latest", x.heard(1, 1, 60, 1), 55);
        Check.due("not elsewhere yet", x.heard(0, 1, 63, 1), 22);
        Check.due("by LAG elsewhere, too", x.heard(0, 1, 64, 1), 55);
        Check.due("but not ahead of that", x.heard(1, 1, 59, 1), 22);
    }

    /** A bag goes by each leg that is on a shortest way, and by one to its own field however long. */
    private static void waysAlike() {
        int[] miles = {50, 51, 49};
        boolean[] goes = {true, false, true};
        for (int i = 0; i < miles.length; i++) {
            AirMail x = new AirMail();
            for (int f = 0; f < 4; f++) {
                x.field(0, true, 0);
            }
            x.leg(0, 1, 50, 0);
            x.leg(1, 3, 50, 0);
            x.leg(0, 2, 60, 0);
            x.leg(2, 3, 40, 0);
            x.leg(2, 0, miles[i] + 10, 0);
            x.leg(0, 3, 400, 0);
            for (int p = 0; p < 3; p++) {
                x.plane(0, 20, 500, 100, 30, true);
                x.pilot(0, 0);
            }
            Check.force(x, 0, 0, ":G");
            x.bag(0, 3, 10, 0, 0);
            x.flight(0, 0, 4, 0);
            x.step(1);
            Check.due("a way of " + (miles[i] + 50), x.where(0, 1), goes[i] ? 0 : -1);
            x.bag(0, 3, 10, 0, 0);
            x.flight(1, 1, 5, 1);
            x.step(1);
            Check.due("the long leg to its field", x.where(1, 1), 1);
            x.bag(0, 3, 10, 0, 0);
            x.flight(2, 2, 0, 2);
            x.step(1);
            boolean shortest = miles[i] + 50 >= 100;
            Check.due("the way by 1", x.where(2, 1), shortest ? 2 : -1);
        }
    }

    private static void bagsInOrder() {
        int[][] classDue = {{3, 10}, {3, 9}, {2, 99}, {3, 10}, {9, 0}, {0, 3000}, {2, 99}, {0, 2999}};
        int[] order = {7, 5, 2, 6, 1, 0, 3, 4};
        for (int room = 0; room <= 8; room++) {
            AirMail x = new AirMail();
            x.field(0, true, 0);
            x.field(0, true, 0);
            x.leg(0, 1, 100, 0);
            x.plane(0, 20, 50 + room * 10, 200, 10, true);
            x.pilot(0, 0);
            Check.force(x, 0, 0, ":G");
            x.bag(0, 1, 50, 0, 0);
            for (int[] c : classDue) {
                x.bag(0, 1, 10, c[0], c[1]);
            }
            x.flight(0, 0, 0, 0);
            x.step(1);
            Check.due("all room is used", x.of(0, 8), 50 + room * 10);
            for (int i = 0; i < order.length; i++) {
                Check.due("bag " + order[i] + " with room for " + room, x.where(order[i] + 1, 1), i < room ? 0 : -1);
            }
        }
    }

    /** A leg's first field may have the greater number: miles and wind are told from there. */
    private static void legToldBackward() {
        for (int from = 0; from < 2; from++) {
            AirMail x = new AirMail();
            x.field(0, true, 0);
            x.field(0, false, 0);
            x.leg(1, 0, 100, 10);
            x.plane(from, 20, 500, 100, 3, true);
            x.pilot(from, 0);
            x.weather(0, 0, 200, 4);
            x.word(from, 0, 0, 50, 3);
            x.bag(from, 1 - from, 10, 0, 0);
            int way = from == 1 ? 1 : -1;
            String wind = way == 1 ? "w=3" : "w=0-3";
            Check.force(x, 0, 0, "c=40&l=" + from + "&g=5&" + wind + ":G");
            Check.force(x, 1, 0, (way == 1 ? "w=4" : "w=0-4") + "&l=" + from + ":G;:L");
            x.flight(0, 0, 0, 30);
            x.step(32);
            int mile = way == 1 ? 48 : 100 - 32;
            Check.due("started from " + from, x.flown(0, 1), 30);
            Check.due("two quarters from " + from, x.of(0, 2), mile);
            Check.due("goes to", x.of(0, 10), 1 - from);
            x.engine(0, 2, 400, 3);
            x.step(1);
            Check.due("down there", x.of(0, 3), 1);
            int[] cells = way == 1 ? new int[] {2, 4, 6} : new int[] {8, 6, 4};
            for (int cell = 0; cell <= 10; cell++) {
                boolean in = cell == cells[0] || cell == cells[1] || cell == cells[2];
                Check.due("cell " + cell + " from " + from, x.chance(0, cell, 0), in ? 1 : 0);
            }
            Check.due("found at the nearer one", x.find(0), way == 1 ? 1 : 0);
            Check.due("the bag where it came from", x.where(0, 0), from);
        }
    }

    /** Bags, planes and legs of greater and less numbers are not taken for one another. */
    private static void greaterAndLessFields() {
        AirMail x = new AirMail();
        for (int f = 0; f < 4; f++) {
            x.field(0, true, 0);
        }
        x.leg(1, 2, 40, 0);
        x.leg(2, 3, 40, 0);
        x.leg(0, 1, 40, 0);
        for (int p = 0; p < 4; p++) {
            x.plane(p, 20, 500, 100, 10, true);
            x.pilot(p, 0);
            x.flight(p, p, 0, 30);
        }
        Check.force(x, 0, 0, ":G");
        int[] may = {1, 0, 0, 1};
        for (int p = 0; p < 4; p++) {
            Check.due("at field " + p, x.may(p), may[p]);
        }
        x.bag(1, 0, 1, 0, 0);
        x.bag(1, 2, 2, 0, 0);
        x.bag(1, 3, 4, 0, 0);
        x.bag(2, 0, 8, 0, 0);
        x.bag(2, 1, 16, 0, 0);
        x.bag(2, 3, 32, 0, 0);
        x.step(31);
        int[] on = {0, 6, 24, 0};
        for (int p = 0; p < 4; p++) {
            Check.due("weight on " + p, x.of(p, 8), on[p]);
        }
        int[] plane = {-1, 1, 1, 2, 2, -1};
        for (int b = 0; b < plane.length; b++) {
            Check.due("bag " + b, x.where(b, 1), plane[b]);
        }
        x.step(2);
        int[] field = {1, -1, 2, 1, -1, 2};
        int[] given = {-1, 31, -1, -1, 31, -1};
        for (int b = 0; b < field.length; b++) {
            Check.due("bag " + b + " at", x.where(b, 0), field[b]);
            Check.due("bag " + b + " given at", x.where(b, 3), given[b]);
        }
    }

    /** Quarter 2999 is the last that goes by. */
    private static void lastQuarter() {
        AirMail x = land(20, 0, 20, 10);
        x.bag(0, 1, 10, 0, 0);
        x.bag(1, 0, 10, 0, 0);
        x.flight(0, 0, 0, 2999);
        x.flight(1, 1, 0, 3000);
        stepTo(x, 2995);
        Check.due("a train that comes at 3000", x.train(1), 3000);
        Check.due("to the end", x.step(5), 3000);
        Check.due("landed at 2999", x.flown(0, 2), 2999);
        Check.due("given at 2999", x.where(0, 3), 2999);
        Check.due("late by all of it", x.where(0, 4), 2999);
        Check.due("the flight of 3000 waits for ever", x.flown(1, 0), 0);
        Check.due("it may", x.may(1), 0);
        Check.due("the train of 3000 never comes", x.where(1, 3), -1);
        Check.due("but would", x.where(1, 2), 3000);
        Check.due("a flight at the end", x.flight(1, 1, 0, 3000), 2);
        Check.due("nothing is tried", x.tried(0), -1);
        x.cancel(1);
        Check.due("given up at the end", x.flown(1, 2), 3000);
        x.bag(1, 0, 10, 0, 3000);
        Check.due("a train beyond the end", x.train(2), 3005);
    }

    private static void rates() {
        for (int rate : new int[] {0, 1, 99}) {
            AirMail x = land(100, 0, 20, 10);
            x.set(2, rate);
            x.flight(0, 0, 0, 30);
            x.flight(1, 1, 0, 30);
            x.step(60);
            Check.due("spent at " + rate, x.count(9), 10 * rate);
            Check.due("coin at " + rate, x.coin(), -10 * rate);
        }
    }
}
