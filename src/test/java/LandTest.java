/** Promises 1 to 10: the land, its weather and words of it. */
public final class LandTest {
    public static void main(String[] args) {
        newObject();
        fields();
        legs();
        grounds();
        far();
        weather();
        words();
        lagAsItIs();
        fullOfWords();
        Check.finish();
    }

    private static void newObject() {
        AirMail x = new AirMail();
        for (int what = 0; what <= 12; what++) {
            Check.due("new count(" + what + ")", x.count(what), 0);
        }
        Check.due("count(13)", x.count(13), -1);
        Check.due("count(-1)", x.count(-1), -1);
        Check.due("new coin()", x.coin(), 0);
        Check.due("new needs()", x.needs(), 0);
        Check.due("new LAG", x.set(0, 0), 4);
        Check.due("new GLIDE", x.set(1, 0), 6);
        Check.due("new RATE", x.set(2, 0), 1);
        Check.noSuch("new row(0)", () -> x.row(0));
        Check.due("NONE", AirMail.NONE, -1);
    }

    private static void fields() {
        AirMail x = new AirMail();
        Check.due("height -1", x.field(-1, true, 0), -1);
        Check.due("height 100", x.field(100, true, 0), -1);
        Check.due("spares -1", x.field(0, true, -1), -1);
        Check.due("spares 10", x.field(0, true, 10), -1);
        for (int i = 0; i < 8; i++) {
            Check.due("field", x.field(i == 0 ? 99 : 0, false, i == 1 ? 9 : 0), i);
        }
        Check.due("a ninth field", x.field(0, false, 0), -1);
        Check.due("count of fields", x.count(1), 8);
        Check.due("lamp(7)", x.lamp(7, true), true);
        Check.due("lamp(7) again", x.lamp(7, true), true);
        Check.due("lamp(8)", x.lamp(8, true), false);
        Check.due("lamp(-1)", x.lamp(-1, true), false);
    }

    private static void legs() {
        AirMail x = new AirMail();
        x.field(0, true, 0);
        x.field(0, true, 0);
        Check.due("leg to none", x.leg(0, 2, 50, 0), -1);
        Check.due("leg from none", x.leg(-1, 0, 50, 0), -1);
        Check.due("leg to itself", x.leg(1, 1, 50, 0), -1);
        Check.due("miles 9", x.leg(0, 1, 9, 0), -1);
        Check.due("miles 401", x.leg(0, 1, 401, 0), -1);
        Check.due("pass -1", x.leg(0, 1, 10, -1), -1);
        Check.due("pass 151", x.leg(0, 1, 10, 151), -1);
        for (int i = 0; i < 12; i++) {
            Check.due("leg", x.leg(i % 2, 1 - i % 2, i == 0 ? 10 : 400, i == 0 ? 0 : 150), i);
        }
        Check.due("a thirteenth leg", x.leg(0, 1, 10, 0), -1);
        Check.due("count of legs", x.count(2), 12);
    }

    private static void grounds() {
        AirMail x = new AirMail();
        x.field(0, true, 0);
        x.field(0, true, 0);
        x.leg(0, 1, 10, 0);
        x.leg(0, 1, 10, 0);
        Check.due("ground of none", x.ground(2, 1, 0), -1);
        Check.due("ground of -1", x.ground(-1, 1, 0), -1);
        Check.due("ground at 0", x.ground(0, 0, 0), -1);
        Check.due("ground at the end", x.ground(0, 10, 0), -1);
        Check.due("rough -1", x.ground(0, 5, -1), -1);
        Check.due("rough 4", x.ground(0, 5, 4), -1);
        Check.due("ground at 1", x.ground(0, 1, 0), 1);
        Check.due("ground at 9", x.ground(0, 9, 3), 2);
        Check.due("ground at 9 again", x.ground(0, 9, 2), 3);
        Check.due("fourth ground", x.ground(0, 4, 2), 4);
        Check.due("fifth ground", x.ground(0, 4, 2), -1);
        Check.due("ground of another leg", x.ground(1, 4, 2), 1);
    }

    private static void far() {
        AirMail x = new AirMail();
        for (int i = 0; i < 5; i++) {
            x.field(0, true, 0);
        }
        x.leg(0, 1, 100, 0);
        Check.due("far(0, 2) without a way", x.far(0, 2), -1);
        x.leg(2, 3, 30, 0);
        x.leg(1, 2, 50, 0);
        Check.due("far over three legs", x.far(0, 3), 180);
        Check.due("far back", x.far(3, 0), 180);
        x.leg(3, 0, 60, 0);
        Check.due("a shorter leg", x.far(0, 3), 60);
        Check.due("around", x.far(0, 2), 90);
        x.leg(0, 1, 20, 0);
        Check.due("the shorter of two legs", x.far(0, 1), 20);
        Check.due("around the other way", x.far(0, 2), 70);
        Check.due("far to itself", x.far(4, 4), 0);
        Check.due("far to a lone field", x.far(4, 0), -1);
        Check.due("far to none", x.far(0, 5), -1);
        Check.due("far from none", x.far(-1, 0), -1);
        Check.due("far of none to itself", x.far(5, 5), -1);
    }

    private static void weather() {
        AirMail x = new AirMail();
        x.field(0, true, 0);
        x.field(0, true, 0);
        x.leg(0, 1, 50, 0);
        x.leg(0, 1, 50, 0);
        Check.due("weather of none", x.weather(2, 0, 0, 0), -1);
        Check.due("weather at -1", x.weather(0, -1, 0, 0), -1);
        Check.due("weather at 3001", x.weather(0, 3001, 0, 0), -1);
        Check.due("cloud -1", x.weather(0, 0, -1, 0), -1);
        Check.due("cloud 201", x.weather(0, 0, 201, 0), -1);
        Check.due("wind -10", x.weather(0, 0, 0, -10), -1);
        Check.due("wind 10", x.weather(0, 0, 0, 10), -1);
        Check.due("cloud at first", x.sky(0, 3000, 0), 200);
        Check.due("wind at first", x.sky(0, 0, 1), 0);
        Check.due("weather", x.weather(0, 100, 50, 3), 1);
        Check.due("earlier weather", x.weather(0, 50, 60, -9), 2);
        Check.due("weather of another leg", x.weather(1, 70, 0, 9), 3);
        Check.due("ahead of all", x.sky(0, 49, 0), 200);
        Check.due("at 50", x.sky(0, 50, 0), 60);
        Check.due("at 99", x.sky(0, 99, 1), -9);
        Check.due("at 100", x.sky(0, 100, 0), 50);
        Check.due("told again", x.weather(0, 50, 61, 1), 4);
        Check.due("of equal ones the last", x.sky(0, 60, 0), 61);
        Check.due("of another leg", x.sky(1, 3000, 1), 9);
        Check.noSuch("sky of none", () -> x.sky(2, 0, 0));
        Check.noSuch("sky of -1", () -> x.sky(-1, 0, 0));
        Check.noSuch("sky at -1", () -> x.sky(0, -1, 0));
        Check.noSuch("sky at 3001", () -> x.sky(0, 3001, 0));
        Check.noSuch("sky what 2", () -> x.sky(0, 0, 2));
        Check.noSuch("sky what -1", () -> x.sky(0, 0, -1));
        for (int i = 5; i <= 60; i++) {
            Check.due("more weather", x.weather(0, 3000, 0, 0), i);
        }
        Check.due("weather beyond 60", x.weather(1, 0, 0, 0), -1);
    }

    private static void words() {
        AirMail x = new AirMail();
        x.field(0, true, 0);
        x.field(0, true, 0);
        x.leg(0, 1, 50, 0);
        x.leg(0, 1, 50, 0);
        x.step(10);
        Check.due("word at none", x.word(2, 0, 0, 0, 0), -1);
        Check.due("word of none", x.word(0, 2, 0, 0, 0), -1);
        Check.due("seen behind NOW", x.word(0, 0, 11, 0, 0), -1);
        Check.due("seen -1", x.word(0, 0, -1, 0, 0), -1);
        Check.due("word of cloud 201", x.word(0, 0, 0, 201, 0), -1);
        Check.due("word of wind -10", x.word(0, 0, 0, 0, -10), -1);
        Check.noSuch("nothing heard", () -> x.heard(0, 0, 3000, 0));
        Check.due("word", x.word(0, 0, 10, 200, 9), 1);
        Check.due("older word", x.word(0, 0, 3, 7, -9), 2);
        Check.noSuch("not heard ahead of NOW", () -> x.heard(0, 0, 9, 0));
        Check.due("the greatest seen", x.heard(0, 0, 10, 0), 10);
        Check.due("its cloud", x.heard(0, 0, 10, 1), 200);
        Check.due("its wind", x.heard(0, 0, 10, 2), 9);
        Check.noSuch("not yet elsewhere", () -> x.heard(1, 0, 13, 0));
        Check.due("elsewhere by LAG", x.heard(1, 0, 14, 0), 10);
        Check.due("equal seen", x.word(0, 0, 10, 1, 1), 3);
        Check.due("of equal ones the latest", x.heard(0, 0, 10, 1), 1);
        Check.noSuch("another leg", () -> x.heard(0, 1, 3000, 0));
        Check.noSuch("heard at none", () -> x.heard(2, 0, 3000, 0));
        Check.noSuch("heard of none", () -> x.heard(0, 2, 3000, 0));
        Check.noSuch("heard at 3001", () -> x.heard(0, 0, 3001, 0));
        Check.noSuch("heard at -1", () -> x.heard(0, 0, -1, 0));
        Check.noSuch("heard what 3", () -> x.heard(0, 0, 3000, 3));
        Check.noSuch("heard what -1", () -> x.heard(0, 0, 3000, -1));
        Check.due("words", x.count(7), 3);
    }

    private static void lagAsItIs() {
        AirMail x = new AirMail();
        x.field(0, true, 0);
        x.field(0, true, 0);
        x.leg(0, 1, 50, 0);
        x.set(0, 20);
        x.word(0, 0, 0, 11, 0);
        x.set(0, 0);
        Check.noSuch("LAG as it was when it came", () -> x.heard(1, 0, 19, 1));
        Check.due("LAG 20 later", x.heard(1, 0, 20, 1), 11);
        x.step(1);
        x.word(0, 0, 1, 12, 0);
        Check.due("LAG 0", x.heard(1, 0, 1, 1), 12);
    }

    private static void fullOfWords() {
        AirMail x = new AirMail();
        x.field(0, true, 0);
        x.field(0, true, 0);
        x.leg(0, 1, 50, 10);
        x.plane(0, 60, 100, 100, 5, true);
        x.pilot(0, 1);
        Check.due("rule", Check.force(x, 0, 0, ":G"), 1);
        for (int i = 1; i <= 120; i++) {
            Check.due("word", x.word(0, 0, 0, 5, 0), i);
        }
        Check.due("word beyond 120", x.word(0, 0, 0, 6, 0), -1);
        x.flight(0, 0, 0, 1);
        x.step(3);
        Check.due("it landed", x.flown(0, 0), 2);
        Check.due("its word is lost", x.count(7), 120);
        Check.due("so the old one is heard", x.heard(1, 0, 10, 1), 5);
    }
}
