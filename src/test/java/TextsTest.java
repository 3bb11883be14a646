/** Promises 18 to 20 and 25: THE TEXT, where a sign can't stand, and what texts give. */
public final class TextsTest {
    public static void main(String[] args) {
        signs();
        refused();
        wrongRules();
        wrongLaws();
        tooLong();
        values();
        choices();
        linesAndRulesInForce();
        fullOfTexts();
        Check.finish();
    }

    private static void signs() {
        AirMail x = new AirMail();
        for (int i = 4; i <= 100; i += 4) {
            Check.due("sign", x.sign(i), i);
        }
        Check.due("beyond 100", x.sign(0), -1);
        Check.due("end(101)", x.end(101), false);
        Check.due("end(-1)", x.end(-1), false);
        Check.due("all there still", x.count(11), 100);
        Check.due("end(100)", x.end(100), true);
        Check.due("end(97)", x.end(97), true);
        Check.due("would be 101", x.sign(0), -1);
        Check.due("end(96)", x.end(96), true);
        Check.due("sign to 100", x.sign(0), 100);
        Check.due("end(0)", x.end(0), true);
        Check.due("end(1) of an empty one", x.end(1), false);
        // the highest byte first: ":G;:" and "W"
        x.sign(0x3A473B3A);
        x.sign(0x57000000);
        x.end(5);
        Check.due("the signs in order", x.force(0, 0), 1);
        x.sign(-1);
        Check.due("a sign 255", x.force(0, 0), -1);
    }

    private static void refused() {
        AirMail x = new AirMail();
        int[][] bad = {{-1, 0}, {3, 0}, {0, -1}, {0, 3001}, {1, 3001}, {2, -1}, {2, 100}};
        for (int[] b : bad) {
            Check.due("refused", Check.force(x, b[0], b[1], ":G"), -100);
            Check.due("empty then", x.count(11), 0);
        }
        Check.due("from 3000", Check.force(x, 0, 3000, ":G"), 1);
        Check.due("empty behind it", x.count(11), 0);
        Check.due("from day 99", Check.force(x, 2, 99, "1"), 1);
        Check.due("wrong", Check.force(x, 0, 0, "::"), -2);
        Check.due("empty behind a wrong one", x.count(11), 0);
    }

    private static void wrong(int kind, String text, int at) {
        Check.due("kind " + kind + ": " + text, Check.force(new AirMail(), kind, 0, text), -1 - at);
    }

    private static void good(int kind, String text) {
        Check.due("kind " + kind + ": " + text, Check.force(new AirMail(), kind, 0, text), 1);
    }

    private static void wrongRules() {
        wrong(0, "", 0);
        wrong(0, ";", 0);
        wrong(0, "G", 0);
        wrong(0, ":", 1);
        wrong(0, ":T", 1);
        wrong(0, ":L", 1);
        wrong(1, ":W", 1);
        wrong(0, ":g", 1);
        wrong(0, ":G:", 2);
        wrong(0, ":GG", 2);
        wrong(0, ":G;", 3);
        wrong(0, ":G;;", 3);
        wrong(0, "()", 1);
        wrong(0, "(:G", 1);
        wrong(0, "(c:G", 2);
        wrong(0, "c):G", 1);
        wrong(0, "!:G", 1);
        wrong(0, "c!:G", 1);
        wrong(0, "c~1:G", 1);
        wrong(0, "~1:G", 0);
        wrong(0, "cc:G", 1);
        wrong(0, "c1:G", 1);
        wrong(0, "1c:G", 1);
        wrong(0, "(c)1:G", 3);
        wrong(0, "(c)(c):G", 3);
        wrong(0, "(c)w:G", 3);
        wrong(0, "1234:G", 3);
        wrong(0, "c<1<2:G", 3);
        wrong(0, "c<1=2:G", 3);
        wrong(0, "c=1+2>3:G", 5);
        wrong(0, "c=1*(2>3)>1:G", 9);
        wrong(0, "c|:G", 2);
        wrong(0, "c||w:G", 2);
        wrong(0, "c+*w:G", 2);
        wrong(0, "*c:G", 0);
        wrong(0, "m:G", 0);
        wrong(0, "C:G", 0);
        wrong(0, " c:G", 0);
        wrong(0, "c :G", 1);
        wrong(0, "c?1:G", 1);
        wrong(0, "c,1:G", 1);
        wrong(0, ":G;d:G", 3);
        wrong(0, "c", 1);
        wrong(0, "c>", 2);
        good(0, ":G");
        good(0, ":W");
        good(1, ":G;:T;:L");
        good(0, "c<1&w<2|a<3:G;c<1:W");
        good(0, "(c<1)<(w<2):G");
        good(0, "!!--!c:G");
        good(0, "1--1:G");
        good(0, "999*007-0:G");
        good(0, "c+w+a+n+l+k+h+f+g+u:W");
    }

    private static void wrongLaws() {
        wrong(2, "", 0);
        wrong(2, ":", 0);
        wrong(2, "?", 0);
        wrong(2, "w?", 2);
        wrong(2, "w?1", 3);
        wrong(2, "w?1:", 4);
        wrong(2, "w?1:2:3", 5);
        wrong(2, "w?s?1:2", 7);
        wrong(2, "w?s?1:2:3:4", 9);
        wrong(2, "w:1", 1);
        wrong(2, "(w?1:2)", 2);
        wrong(2, "(w:2)", 2);
        wrong(2, "w;", 1);
        wrong(2, "c", 0);
        wrong(2, "G", 0);
        wrong(2, "w<1?s<2<3:4", 7);
        wrong(2, "w)", 1);
        good(2, "w*m+s-t*d");
        good(2, "w?1:s?2:3");
        good(2, "w?s?1:2:3");
        good(2, "w<1?s<2:t<3");
    }

    private static void tooLong() {
        String sum = "c+c+c+c+c+c+c+c+c+c+c+c+c+c+c+c+c+c+c+c+c+c+c+c+c+c+c+c+11:G";
        Check.due("a text of sixty signs", sum.length(), 60);
        good(0, sum.replace("11", "1"));
        good(0, sum);
        wrong(0, sum + ";", 60);
        wrong(0, sum + "?", 60);
        wrong(0, sum + ";:G", 60);
        wrong(0, sum.replace("11", "111"), 60);
        wrong(0, "?" + sum, 0);
        wrong(0, sum.replace(":", "x"), 58);
        wrong(0, sum.replace(":", "x") + ":::", 58);
        wrong(0, "(".repeat(60), 60);
        wrong(0, "(".repeat(100), 60);
        wrong(0, "!-".repeat(50), 60);
        wrong(2, "(".repeat(59) + "?", 59);
        wrong(2, "1?".repeat(30), 60);
        wrong(2, "1?".repeat(30) + "1", 60);
        good(2, "(".repeat(29) + "w" + ")".repeat(29));
        wrong(2, "(".repeat(30) + "w" + ")".repeat(29), 60);
        good(2, "1?".repeat(14) + "2" + ":3".repeat(14));
        good(2, "-".repeat(59) + "1");
        good(1, ":G;:T;:L;".repeat(6) + ":G;:T");
    }

    /** A bag of weight 7, class 3, given 5 late on day 1 after 21 miles, and what a law gives for it. */
    private static AirMail given() {
        AirMail x = new AirMail();
        x.field(0, true, 0);
        x.field(0, true, 0);
        x.leg(0, 1, 21, 0);
        x.step(94);
        x.bag(0, 1, 7, 3, 95);
        x.train(0);
        x.step(7);
        return x;
    }

    private static void gives(String law, int pay) {
        AirMail x = given();
        Check.due("law " + law, Check.force(x, 2, 0, law), 1);
        Check.due("pay by " + law, x.where(0, 5), pay);
        Check.due("judge of " + law, x.judge(0), pay);
    }

    private static void values() {
        gives("w", 7);
        gives("m", 21);
        gives("s", 3);
        gives("t", 5);
        gives("d", 1);
        gives("0", 0);
        gives("007", 7);
        gives("2+3*4", 14);
        gives("(2+3)*4", 20);
        gives("10-3-2", 5);
        gives("10-(3-2)", 9);
        gives("2-5", 0);
        gives("5--2", 7);
        gives("-2*-3", 6);
        gives("!0+1", 2);
        gives("!(0+1)", 0);
        gives("!!7", 1);
        gives("!-1", 0);
        gives("-!0+5", 4);
        gives("5|0", 1);
        gives("0|0", 0);
        gives("5&7", 1);
        gives("5&0", 0);
        gives("1|0&0", 1);
        gives("(1|0)&0", 0);
        gives("1<2", 1);
        gives("2<1", 0);
        gives("2>1", 1);
        gives("2>2", 0);
        gives("2=2", 1);
        gives("1+1=2", 1);
        gives("3*(1=1)+1", 4);
        gives("1<2&2<3", 1);
        gives("2&1<0|3", 1);
        gives("-1<0", 1);
        gives("999*999*999*999*2", Math.max(0, 999 * 999 * 999 * 999 * 2));
        gives("999*999*999*3", 999 * 999 * 999 * 3 > 0 ? 999 * 999 * 999 * 3 : 0);
        gives("999*999*999*5", 999 * 999 * 999 * 5 > 0 ? 999 * 999 * 999 * 5 : 0);
        gives("0-999*999*999*3<0", 0 - 999 * 999 * 999 * 3 < 0 ? 1 : 0);
    }

    private static void choices() {
        gives("1?2:3", 2);
        gives("0?2:3", 3);
        gives("-1?2:3", 2);
        gives("0?1:0?2:3", 3);
        gives("0?1:1?2:3", 2);
        gives("1?0?4:5:6", 5);
        gives("1?1?4:5:6", 4);
        gives("0?1?4:5:6", 6);
        gives("1?0?4:0?7:8:6", 8);
        gives("w>6?w*m:s", 147);
        gives("t>5?w*m:s+1", 4);
        gives("1?2-5:9", 0);
    }

    private static AirMail wait(String rule) {
        AirMail x = new AirMail();
        x.field(0, true, 0);
        x.field(0, true, 0);
        x.leg(0, 1, 100, 0);
        x.plane(0, 10, 500, 100, 60, true);
        x.pilot(0, 0);
        if (!rule.isEmpty()) {
            Check.force(x, 0, 0, rule);
        }
        x.flight(0, 0, 0, 0);
        return x;
    }

    private static void linesAndRulesInForce() {
        AirMail none = wait("");
        Check.due("without rules it waits", none.may(0), 7);
        Check.due("not asked", none.why(0, 0), -3);
        none.step(1);
        Check.due("no rules told", none.why(0, 0), -2);
        Check.due("not asked aloft", none.why(0, 1), -3);
        Check.due("why of none", none.why(1, 0), -1);
        Check.due("why of -1", none.why(-1, 0), -1);
        Check.due("why of kind 2", none.why(0, 2), -1);
        Check.due("why of kind -1", none.why(0, -1), -1);
        AirMail second = wait("0:G;1:W;:G");
        Check.due("the first true line", second.may(0), 7);
        Check.due("may is no asking", second.why(0, 0), -3);
        second.step(1);
        Check.due("it was line 1", second.why(0, 0), 1);
        Check.force(second, 0, 1, "0:W;0:W;:G");
        Check.due("a later rule", second.may(0), 0);
        Check.force(second, 0, 2, ":W");
        Check.due("one not in force yet", second.may(0), 0);
        Check.force(second, 0, 1, "0:W");
        Check.due("of equal ones the last", second.may(0), 7);
        second.step(1);
        Check.due("none of its lines", second.why(0, 0), -2);
        Check.force(second, 1, 0, "h<2:G;:G");
        Check.force(second, 0, 2, "1:G");
        Check.due("of equal ones the last, again", second.may(0), 0);
        second.step(1);
        Check.due("line 0", second.why(0, 0), 0);
        Check.due("line 0 aloft", second.why(0, 1), 0);
        second.step(1);
        Check.due("line 1 aloft", second.why(0, 1), 1);
    }

    private static void fullOfTexts() {
        AirMail x = new AirMail();
        for (int i = 1; i <= 20; i++) {
            Check.due("rule", Check.force(x, i % 2, i, ":G"), i);
        }
        Check.due("a rule too many", Check.force(x, 0, 0, ":G"), -100);
        Check.due("empty then", x.count(11), 0);
        Check.due("asked ahead of the text", Check.force(x, 1, 0, "x"), -100);
        for (int i = 1; i <= 12; i++) {
            Check.due("law", Check.force(x, 2, i, "1"), i);
        }
        Check.due("a law too many", Check.force(x, 2, 0, "1"), -100);
    }
}
