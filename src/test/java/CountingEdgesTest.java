/** The edges of texts, pay, searches, spares and plans (Terms 3, 5 and 6): the last case here, the first one there. */
public final class CountingEdgesTest {
    private static final String DIGITS = "0123456789";
    private static final String RULE_THINGS = DIGITS + "cwanlkhfgu!-(";
    private static final String LAW_THINGS = DIGITS + "wmstd!-(";
    private static final String ALL = "|&<>=+-*";
    private static final String NOT_COMPARING = "|&+-*";
    private static final int MOST = Integer.MAX_VALUE;

    public static void main(String[] args) {
        everySignInRules();
        everySignInLaws();
        numbersAndBrackets();
        sixtySigns();
        textsBehindWrongOnes();
        choices();
        sumsThatGoRound();
        conditionsThatGoRound();
        payByDays();
        givenAtOnce();
        lateness();
        coinsThatGoRound();
        plansOfCoinsThatGoRound();
        bitsOfLegs();
        cells();
        chancesByTank();
        fourLooks();
        lanesAtTheEnds();
        nearerFields();
        trainsByFour();
        sparesByEight();
        sparesShared();
        sixAndSeven();
        lampsByNumber();
        lampsInTimeToTheQuarter();
        sixteenSteps();
        Check.finish();
    }

    // ---- texts

    /** Behind the signs of a text that may go on, these signs can stand, and none of the other 256. */
    private static void mayFollow(int kind, String text, String signs) {
        for (int sign = 0; sign < 256; sign++) {
            AirMail x = new AirMail();
            int answer = Check.force(x, kind, 0, text + (char) sign);
            boolean stands = signs.indexOf(sign) >= 0;
            String what = "kind " + kind + ": sign " + sign + " behind " + text;
            if (stands) {
                Check.due(what + " can stand", answer == 1 || answer == -2 - text.length(), true);
            } else {
                Check.due(what, answer, -1 - text.length());
            }
        }
    }

    private static void everySignInRules() {
        String[] letters = "c w a n l k h f g u".split(" ");
        for (String letter : letters) {
            mayFollow(0, letter, ALL + ":");
        }
        for (int kind = 0; kind < 2; kind++) {
            mayFollow(kind, "", RULE_THINGS + ":");
            mayFollow(kind, ":", kind == 0 ? "GW" : "GTL");
            mayFollow(kind, ":G", ";");
            mayFollow(kind, ":G;", RULE_THINGS + ":");
            mayFollow(kind, "1", DIGITS + ALL + ":");
            mayFollow(kind, "12", DIGITS + ALL + ":");
            mayFollow(kind, "123", ALL + ":");
            mayFollow(kind, "c+123", ALL + ":");
            mayFollow(kind, "(", RULE_THINGS);
            mayFollow(kind, "((c", ALL + ")");
            mayFollow(kind, "((c)", ALL + ")");
            mayFollow(kind, "((c))", ALL + ":");
            mayFollow(kind, "(12", DIGITS + ALL + ")");
            mayFollow(kind, "(1)", ALL + ":");
            mayFollow(kind, "-", RULE_THINGS);
            mayFollow(kind, "!-!", RULE_THINGS);
            for (char operator : ALL.toCharArray()) {
                mayFollow(kind, "c" + operator, RULE_THINGS);
            }
            for (char comparing : "<>=".toCharArray()) {
                mayFollow(kind, "c" + comparing + "w", NOT_COMPARING + ":");
                mayFollow(kind, "c" + comparing + "w+1", DIGITS + NOT_COMPARING + ":");
                mayFollow(kind, "c" + comparing + "-w*(n)", NOT_COMPARING + ":");
                mayFollow(kind, "(c" + comparing + "w", NOT_COMPARING + ")");
                mayFollow(kind, "(c" + comparing + "w)", ALL + ":");
                mayFollow(kind, "c" + comparing + "(w", ALL + ")");
                mayFollow(kind, "c" + comparing + "w|n", ALL + ":");
                mayFollow(kind, "c" + comparing + "w&n", ALL + ":");
                mayFollow(kind, "c" + comparing + "w:G;n", ALL + ":");
                mayFollow(kind, "(c" + comparing + "(w<n)", NOT_COMPARING + ")");
            }
        }
    }

    private static void everySignInLaws() {
        mayFollow(2, "", LAW_THINGS);
        for (String letter : "w m s t d".split(" ")) {
            mayFollow(2, letter, ALL + "?");
        }
        mayFollow(2, "123", ALL + "?");
        mayFollow(2, "12", DIGITS + ALL + "?");
        mayFollow(2, "w?", LAW_THINGS);
        mayFollow(2, "w?m", ALL + "?:");
        mayFollow(2, "w?m:", LAW_THINGS);
        mayFollow(2, "w?m:s", ALL + "?");
        mayFollow(2, "w?m?s", ALL + "?:");
        mayFollow(2, "w?m?s:t", ALL + "?:");
        mayFollow(2, "w?m?s:t:d", ALL + "?");
        mayFollow(2, "w?m:s?t", ALL + "?:");
        mayFollow(2, "w?m:s?t:d", ALL + "?");
        mayFollow(2, "(w", ALL + ")");
        mayFollow(2, "w?(m", ALL + ")");
        mayFollow(2, "w<1", DIGITS + NOT_COMPARING + "?");
        mayFollow(2, "w<m?s", ALL + "?:");
        mayFollow(2, "w<m?s<t", NOT_COMPARING + "?:");
        mayFollow(2, "w<m?s<t:d", ALL + "?");
        mayFollow(2, "w<m?s<t:d<w", NOT_COMPARING + "?");
        mayFollow(2, "!", LAW_THINGS);
        mayFollow(2, "w*", LAW_THINGS);
    }

    private static void numbersAndBrackets() {
        gives("999", 999);
        gives("000", 0);
        gives("001", 1);
        gives("((((((7))))))", 7);
        gives("-(-(-(-7)))", 7);
        gives("!(!(!(!7)))", 1);
        gives("----7", 7);
        gives("-!-!0", 0);
        gives("3-2-1", 0);
        gives("3-(2-1)", 2);
        gives("2*3*4", 24);
        gives("8-2*3", 2);
        gives("-2+5", 3);
        gives("!1+1", 1);
        gives("!1*5+2", 2);
        gives("7=7+0", 1);
        gives("7=7&7=7", 1);
        gives("0|7>6", 1);
        gives("5>4+1", 0);
        gives("5>4*1", 1);
        gives("0|0&1", 0);
        gives("1|1&0", 1);
        gives("-5|0", 1);
        gives("-5&-7", 1);
        gives("(1<2)<2", 1);
        gives("3>(2>1)", 1);
    }

    private static void answers(int kind, String text, int answer) {
        Check.due("kind " + kind + ": " + text, Check.force(new AirMail(), kind, 0, text), answer);
    }

    /** 60 signs are a text, of 61 the first 60 are looked at. */
    private static void sixtySigns() {
        String sum = "w+".repeat(29);
        answers(2, sum + "w", 1);
        answers(2, sum + "12", 1);
        answers(2, sum + "(", -60);
        answers(2, sum + "((", -61);
        answers(2, sum + "-1", 1);
        answers(2, sum + "-(", -61);
        answers(2, sum + "123", -61);
        answers(2, sum + "12+", -61);
        answers(2, sum + "12x", -61);
        answers(2, sum + "1xx", -60);
        answers(2, sum + "x", -59);
        answers(2, "x" + sum + "123", -1);
        answers(2, sum + "12".repeat(20), -61);
        answers(2, sum + "w?1:2", -61);
        answers(2, sum + "w)", -60);
        answers(2, sum + "w)w", -60);
        String lines = ":G;".repeat(19);
        answers(0, lines + ":G", 1);
        answers(0, lines + ":G;", -61);
        answers(0, lines + ":G;:G", -61);
        answers(0, lines + "c:G", 1);
        answers(0, lines + "c:", -60);
        answers(0, lines + "cw:G", -59);
        answers(0, lines + "1+1:G", -61);
        answers(0, lines + "c:T", -60);
        answers(0, ":G;".repeat(33), -61);
        answers(0, ":G:" + ":G;".repeat(32), -3);
        answers(1, "(".repeat(29) + "c" + ")".repeat(28) + ":G", -59);
        answers(1, "(".repeat(28) + "c" + ")".repeat(28) + ":T", 1);
        answers(1, "!".repeat(57) + "c:L", 1);
        answers(1, "!".repeat(58) + "c:L", -61);
    }

    /** What was wrong in one text does not reach into the next. */
    private static void textsBehindWrongOnes() {
        String[] wrong = {"((((", "c<1", "(c<1", "123", "!!!", "c+", "1?2", "w?1?2", "w?1:2?", "w<1?2", "(w<1", ")"};
        for (String text : wrong) {
            for (int kind = 0; kind <= 2; kind++) {
                AirMail x = given();
                boolean refused = Check.force(x, kind, 0, text) < 0;
                if (refused) {
                    Check.due("a law behind " + text, Check.force(x, 2, 0, "w<9?12+1:0"), 1);
                    Check.due("what it gives", x.where(0, 5), 13);
                    Check.due("a rule behind it", Check.force(x, 1, 0, "c<1&w<2:G;12+3=15:T"), 1);
                    Check.due("what is wrong behind it", Check.force(x, 1, 0, "c):G"), -2);
                    Check.due("what ends too early", Check.force(x, 0, 0, "(c"), -3);
                }
            }
        }
        Check.due("an empty text tells nothing", given().force(1, 0), -1);
    }

    /** A bag of weight 7, class 3, given 5 late on day 1 after 21 miles. */
    private static AirMail given() {
        AirMail x = new AirMail();
        x.field(0, true, 0);
        x.field(0, true, 0);
        x.leg(0, 1, 21, 0);
        x.step(94);
        x.bag(0, 1, 7, 3, 95);
        x.train(0);
        x.step(7);
        return x;
    }

    private static void gives(String law, int pay) {
        AirMail x = given();
        Check.due("law " + law, Check.force(x, 2, 0, law), 1);
        Check.due("pay by " + law, x.where(0, 5), pay);
        Check.due("judge of " + law, x.judge(0), pay);
        Check.due("coin by " + law, x.coin(), pay);
    }

    private static void choices() {
        gives("1?5:0?2:3", 5);
        gives("1?5:1?2:3", 5);
        gives("0?5:0?2:0?4:6", 6);
        gives("0?5:0?2:1?4:6", 4);
        gives("0?5:1?2:1?4:6", 2);
        gives("1?5:1?2:1?4:6", 5);
        gives("1?1?1?8:7:6:5", 8);
        gives("1?1?0?8:7:6:5", 7);
        gives("1?0?1?8:7:6:5", 6);
        gives("0?1?1?8:7:6:5", 5);
        gives("1?1?8:7:0?6:5", 8);
        gives("0?1?8:7:0?6:5", 5);
        gives("0?1?8:7:1?6:5", 6);
        gives("w=7?m=21?s=3?t=5?d=1?42:0:0:0:0:0", 42);
        gives("1+1?2*3:4", 6);
        gives("1-1?2*3:4+5", 9);
        gives("0|1?1&0:7", 0);
        gives("0-1?2:3", 2);
        gives("(0)?2:(3)", 3);
    }

    private static void sumsThatGoRound() {
        gives("512*512*512*16", 0);
        gives("512*512*512*16-1", MOST);
        gives("512*512*512*16<0", 1);
        gives("512*512*512*16<1", 1);
        gives("1>512*512*512*16", 1);
        gives("-(512*512*512*16)", 0);
        gives("-(512*512*512*16)<0", 1);
        gives("-(512*512*512*16)=512*512*512*16", 1);
        gives("512*512*512*16-1+1<0", 1);
        gives("512*512*512*32", 0);
        gives("512*512*512*32=0", 1);
        gives("!(512*512*512*32)", 1);
        gives("!(512*512*512*16)", 0);
        gives("512*512*512*16?1:2", 1);
        gives("512*512*512*32?1:2", 2);
        gives("512*512*512*16-1-(512*512*512*16)+7", 6);
        gives("0-(512*512*512*16-1)-2", MOST);
        gives("999*999*999*999", 999 * 999 * 999 * 999 > 0 ? 999 * 999 * 999 * 999 : 0);
        gives("512*512*512*8*w", Math.max(0, (1 << 30) * 7));
        gives("512*512*512*8*s", Math.max(0, (1 << 30) * 3));
    }

    private static AirMail waits() {
        AirMail x = new AirMail();
        x.field(0, true, 0);
        x.field(0, true, 0);
        x.leg(0, 1, 100, 0);
        x.plane(0, 20, 500, 100, 60, true);
        x.pilot(0, 0);
        x.flight(0, 0, 0, 0);
        return x;
    }

    private static void conditionsThatGoRound() {
        String[] go = {"512*512*512*16:G", "512*512*512*16<c:G", "-(512*512*512*16)<c:G", "512*512*512*16-1>c:G",
            "512*512*512*32:W;:G", "f-60-1:G", "c-1:G", "!!(0-5):G", "0:W;1:G;:W", "1:G;:W", "n&l&!k&f=60&g=5:G"};
        for (String rule : go) {
            AirMail x = waits();
            Check.due("rule", Check.force(x, 0, 0, rule), 1);
            Check.due("may by " + rule, x.may(0), 0);
        }
        String[] stay = {"0:G", "c:G", "f-60:G", "!5:G", "512*512*512*32:G", "0:G;:W", "0:G;0:G;0:G", ":W;:G"};
        for (String rule : stay) {
            AirMail x = waits();
            Check.due("rule", Check.force(x, 0, 0, rule), 1);
            Check.due("may by " + rule, x.may(0), 7);
        }
        AirMail many = waits();
        Check.force(many, 0, 0, "0:G;".repeat(13) + "1:G");
        many.step(1);
        Check.due("line 13", many.why(0, 0), 13);
        AirMail most = waits();
        Check.force(most, 0, 0, ":W;".repeat(19) + ":G");
        most.step(1);
        Check.due("line 0 of twenty", most.why(0, 0), 0);
    }

    // ---- pay

    /** Bags given by train (10 miles, 3 quarters) at the ends of days. */
    private static void payByDays() {
        AirMail x = new AirMail();
        x.field(0, true, 0);
        x.field(0, true, 0);
        x.leg(0, 1, 10, 0);
        int[] at = {3, 95, 96, 191, 192, 2975, 2976, 2999};
        int[] day = {0, 0, 1, 1, 2, 30, 31, 31};
        for (int i = 0; i < at.length; i++) {
            while (x.count(0) < at[i] - 3) {
                x.step(Math.min(400, at[i] - 3 - x.count(0)));
            }
            x.bag(0, 1, 1, 0, 0);
            Check.due("comes", x.train(i), at[i]);
        }
        x.step(4);
        Check.due("all are given", x.count(8), at.length);
        Check.force(x, 2, 0, "d+500");
        for (int i = 0; i < at.length; i++) {
            Check.due("day of " + at[i], x.where(i, 5), 500 + day[i]);
            Check.due("late", x.where(i, 4), at[i]);
        }
        Check.force(x, 2, 31, "t");
        Check.due("the last day", x.where(7, 5), 2999);
        Check.due("its first quarter", x.where(6, 5), 2976);
        Check.due("the day ahead of it", x.where(5, 5), 530);
        Check.force(x, 2, 32, "999");
        Check.due("no such day comes", x.where(7, 5), 2999);
        Check.force(x, 2, 1, "d+600");
        Check.due("day 0", x.where(1, 5), 500);
        Check.due("day 1", x.where(2, 5), 601);
        Check.due("day 30", x.where(5, 5), 630);
        Check.due("day 31", x.where(7, 5), 2999);
    }

    /** 10 miles at 10: what starts at quarter 0 is given at quarter 0. */
    private static void givenAtOnce() {
        AirMail x = new AirMail();
        x.field(0, true, 0);
        x.field(0, true, 0);
        x.leg(0, 1, 10, 0);
        x.plane(0, 10, 500, 100, 1, true);
        x.pilot(0, 0);
        Check.force(x, 0, 0, ":G");
        Check.force(x, 2, 0, "w+t");
        x.bag(0, 1, 10, 0, 0);
        x.flight(0, 0, 0, 0);
        x.step(1);
        Check.due("given at 0", x.where(0, 3), 0);
        Check.due("not late", x.where(0, 4), 0);
        Check.due("paid", x.where(0, 5), 10);
        Check.due("coin", x.coin(), 9);
        Check.due("judge", x.judge(0), 10);
        Check.due("one", x.count(8), 1);
        Check.due("started", x.flown(0, 1), 0);
        Check.due("ended", x.flown(0, 2), 0);
        Check.due("the word", x.heard(1, 0, 0, 0), 0);
        x.lead(0);
        Check.row("its way", x, 0, 0, 0, 100, 0, 300);
    }

    private static void lateness() {
        for (int due = 8; due <= 12; due++) {
            AirMail x = new AirMail();
            x.field(0, true, 0);
            x.field(0, true, 0);
            x.leg(0, 1, 40, 0);
            x.bag(0, 1, 10, 0, due);
            Check.force(x, 2, 0, "t");
            Check.due("NONE as long as it isn't given", x.where(0, 4), -1);
            Check.due("no pay as long", x.where(0, 5), 0);
            Check.due("not counted", x.count(8), 0);
            x.train(0);
            x.step(10);
            Check.due("on the train still", x.where(0, 3), -1);
            x.step(1);
            Check.due("late, DUE at " + due, x.where(0, 4), Math.max(0, 10 - due));
            Check.due("t", x.where(0, 5), Math.max(0, 10 - due));
            Check.due("in time", x.lamps(0, 0), due >= 10 ? 1 : 0);
        }
    }

    private static void coinsThatGoRound() {
        int sum = 0;
        AirMail x = new AirMail();
        x.field(0, true, 0);
        x.field(0, true, 0);
        x.leg(0, 1, 10, 0);
        x.plane(0, 10, 500, 100, 1, true);
        x.pilot(0, 0);
        Check.force(x, 0, 0, ":G");
        Check.force(x, 2, 0, "512*512*512*16-1");
        for (int i = 1; i <= 5; i++) {
            x.bag(0, 1, 1, 0, 0);
            x.train(i - 1);
            x.step(4);
            sum += MOST;
            Check.due("pay of one", x.where(i - 1, 5), MOST);
            Check.due("coin of " + i, x.coin(), sum);
            Check.due("judge of " + i, x.judge(0), sum);
            Check.due("tried", x.tried(5), sum);
        }
        x.flight(0, 0, 0, 30);
        x.step(20);
        Check.due("coin less 1 spent", x.coin(), sum - 1);
        AirMail y = new AirMail();
        y.field(0, true, 0);
        y.field(0, true, 0);
        y.leg(0, 1, 10, 0);
        y.plane(0, 5, 500, 100, 60, true);
        y.pilot(0, 0);
        Check.force(y, 0, 0, ":G");
        Check.force(y, 2, 0, "512*512*512*16");
        y.bag(0, 1, 1, 0, 0);
        y.train(0);
        y.flight(0, 0, 0, 0);
        y.step(10);
        Check.due("0 for a pay that went round below 0", y.where(0, 5), 0);
        Check.due("what was spent", y.coin(), -2);
    }

    /** Coin is compared as it is, gone round or not; the answer may be below 0. */
    private static void plansOfCoinsThatGoRound() {
        AirMail x = new AirMail();
        for (int i = 0; i < 3; i++) {
            x.field(0, true, 0);
        }
        x.leg(0, 1, 10, 0);
        x.leg(0, 2, 10, 0);
        for (int i = 0; i < 2; i++) {
            x.plane(0, 10, 500, 100, 1, true);
            x.pilot(0, 0);
            x.bag(0, i + 1, 1, 0, 0);
            x.flight(i, i, i, 0);
        }
        Check.force(x, 0, 0, ":G");
        Check.force(x, 2, 0, "512*512*512*16-1");
        Check.due("both go round", x.tried(1), -4);
        Check.due("one is most", x.plan(1), MOST - 1);
        Check.row("the first one", x, 1);
        x.cancel(0);
        x.train(0);
        Check.due("with the train, too", x.tried(4), -3);
        Check.due("none is most", x.plan(4), MOST);
        Check.row("none", x, 0);
        AirMail y = new AirMail();
        Worlds.busy(y);
        Check.force(y, 2, 0, "0");
        Check.due("coin below 0", y.coin(), -15);
        Check.due("as a plan's answer, too", y.plan(0), -15);
        Check.row("with its row", y, 0);
        Check.due("lamps at any coin", y.lamps(0, 0), 1);
    }

    // ---- pilots

    private static void bitsOfLegs() {
        for (int legs = 0; legs <= 12; legs++) {
            AirMail x = new AirMail();
            x.field(0, true, 0);
            x.field(0, true, 0);
            for (int i = 0; i < legs; i++) {
                x.leg(0, 1, 10, 0);
            }
            int all = (1 << legs) - 1;
            Check.due("knows one too many of " + legs, x.pilot(0, all + 1), -1);
            Check.due("knows the next alone", x.pilot(0, 1 << legs), -1);
            Check.due("knows below 0", x.pilot(0, -1), -1);
            Check.due("knows all", x.pilot(0, all), 0);
            Check.due("as bits", x.who(0, 3), all);
            Check.due("knows none", x.pilot(1, 0), 1);
            for (int i = 0; i < legs; i++) {
                Check.due("learns", x.learns(1, i), true);
                Check.due("knows more", x.who(1, 3), (1 << i + 1) - 1);
            }
            Check.due("learns none such", x.learns(1, legs), false);
            Check.due("knows the same", x.who(1, 3), all);
        }
    }

    // ---- down

    /** A plane that is down where it started, on a leg of so many miles. */
    private static AirMail down(int miles, int speed, int tank, int from) {
        AirMail x = new AirMail();
        x.field(0, true, 0);
        x.field(0, true, 0);
        x.leg(0, 1, miles, 0);
        x.plane(from, speed, 500, 100, tank, true);
        x.pilot(from, 0);
        Check.force(x, 0, 0, ":G");
        Check.force(x, 1, 0, ":L");
        x.flight(0, 0, 0, 30);
        x.step(31);
        Check.due("down", x.of(0, 2), from == 0 ? 0 : miles);
        return x;
    }

    /** Cells go up to the mile MILES. */
    private static void cells() {
        int[] miles = {10, 11, 19, 20, 99, 100, 101, 109, 110, 390, 399, 400};
        int[] last = {1, 1, 1, 2, 9, 10, 10, 10, 11, 39, 39, 40};
        for (int i = 0; i < miles.length; i++) {
            AirMail x = down(miles[i], 60, 1, 0);
            Check.due("numerator of the last", x.chance(0, last[i], 0) >= 0, true);
            int cell = last[i] + 1;
            Check.noSuch("none behind it", () -> x.chance(0, cell, 0));
            Check.due("no look behind it", x.look(0, cell, 50), -1);
            Check.due("a look at the last", x.look(0, last[i], 50), 1);
            long sum = 0;
            for (int c = 0; c <= last[i]; c++) {
                sum += x.chance(0, c, 0) * 1000000 / x.chance(0, c, 1);
            }
            Check.due("all together 1", Math.abs(sum - 1000000) < 100, true);
            if (miles[i] <= 60) {
                Check.due("1 each when no quarter ends on the leg", x.chance(0, 0, 1), 2 * (last[i] + 1) - 1);
            } else {
                Check.due("all in cell 6", x.chance(0, 6, 0), 1);
                Check.due("all in cell 6", x.chance(0, 6, 1), 1);
            }
        }
    }

    /** 20, 40, 60, 80 and 100 of 101 miles, as far as the tank goes; from the other field 81, 61, 41, 21, 1. */
    private static void chancesByTank() {
        for (int tank = 1; tank <= 7; tank++) {
            int many = Math.min(5, tank);
            AirMail x = down(101, 20, tank, 0);
            AirMail y = down(101, 20, tank, 1);
            for (int cell = 0; cell <= 10; cell++) {
                boolean in = cell % 2 == 0 && cell > 0 && cell / 2 <= many;
                Check.due("tank " + tank + ", cell " + cell, x.chance(0, cell, 0), in ? 1 : 0);
                Check.due("of", x.chance(0, cell, 1), in ? many : 1);
                boolean back = cell % 2 == 0 && (10 - cell) / 2 <= many && cell < 10;
                Check.due("back: tank " + tank + ", cell " + cell, y.chance(0, cell, 0), back ? 1 : 0);
                Check.due("of", y.chance(0, cell, 1), back ? many : 1);
            }
            AirMail z = down(100, 20, tank, 0);
            Check.due("100 is not below 100", z.chance(0, 10, 0), 0);
            Check.due("80 is", z.chance(0, 8, 0), tank >= 4 ? 1 : 0);
        }
        AirMail slow = down(400, 5, 60, 0);
        // 5 .. 300: 5; 10 and 15; .. ; 290 and 295; 300
        Check.due("cell 0", slow.chance(0, 0, 1), 60);
        Check.due("cell 29", slow.chance(0, 29, 1), 30);
        Check.due("cell 30", slow.chance(0, 30, 1), 60);
        Check.due("cell 31", slow.chance(0, 31, 0), 0);
        Check.due("cell 40", slow.chance(0, 40, 1), 1);
    }

    private static void fourLooks() {
        AirMail x = down(21, 20, 1, 0);
        Check.due("all in cell 2", x.chance(0, 2, 1), 1);
        for (int i = 1; i <= 4; i++) {
            Check.due("look", x.look(0, 2, 99), i);
            Check.due("1 all the same", x.chance(0, 2, 0), 1);
            Check.due("of 1", x.chance(0, 2, 1), 1);
            Check.due("0 of 1", x.chance(0, 0, 1), 1);
        }
        AirMail y = down(10, 60, 1, 0);
        long of = 1;
        for (int i = 1; i <= 4; i++) {
            y.look(0, 0, 99);
            of *= 100;
            Check.due("1", y.chance(0, 0, 0), 1);
            Check.due("of", y.chance(0, 0, 1), of + 1);
            Check.due("rest", y.chance(0, 1, 0), of);
            Check.due("of", y.chance(0, 1, 1), of + 1);
        }
        AirMail z = down(10, 60, 1, 0);
        z.look(0, 1, 1);
        Check.due("99", z.chance(0, 1, 0), 99);
        Check.due("of 199", z.chance(0, 1, 1), 199);
        Check.due("find", z.find(0), 0);
        Check.due("HURT keeps it", z.may(z.flight(0, 0, 0, 31)), 2);
    }

    private static void lanesAtTheEnds() {
        AirMail x = down(10, 60, 1, 0);
        Check.due("alike", x.lanes(0, 1, 1), 1);
        Check.due("99 and 99", x.lanes(0, 99, 99), 1);
        Check.due("1 and 99", x.lanes(0, 1, 99), 1);
        Check.due("99 and 1", x.lanes(0, 99, 1), 1);
        x.look(0, 0, 1);
        Check.due("the better one to the better cell", x.lanes(0, 1, 99), 1);
        Check.due("p being the better one", x.lanes(0, 99, 1), 100);
        Check.due("of equal sights the less cell to p", x.lanes(0, 50, 50), 1);
        Check.due("p 0", x.lanes(0, 0, 1), -1);
        Check.due("q 100", x.lanes(0, 1, 100), -1);
        AirMail y = down(400, 5, 60, 1);
        Check.due("the first of all that are likeliest", y.lanes(0, 99, 1), 1011);
        // cells 11 .. 39 have two each, 10 and 40 have less
        Check.due("of equal ones the less of p's, then of q's", y.lanes(0, 1, 99), 1011);
    }

    private static void nearerFields() {
        int[] miles = {10, 11, 399, 400};
        for (int m : miles) {
            Check.due("mile 0", down(m, 60, 1, 0).find(0), 0);
            Check.due("mile " + m, down(m, 60, 1, 1).find(0), 1);
        }
        int[][] atFound = {{99, 0}, {100, 0}, {101, 1}};
        for (int[] a : atFound) {
            AirMail y = new AirMail();
            y.field(0, true, 0);
            y.field(0, true, 0);
            y.leg(1, 0, 200, 0);
            y.ground(0, a[0], 0);
            y.set(1, 50);
            y.plane(1, 50, 500, 100, 10, true);
            y.pilot(1, 0);
            Check.force(y, 0, 0, ":G");
            Check.force(y, 1, 0, "h=3:L");
            y.flight(0, 0, 0, 30);
            y.step(33);
            Check.due("down at " + a[0], y.of(0, 2), a[0]);
            Check.due("the leg's first field is 1", y.find(0), 1 - a[1]);
            Check.due("not HURT by a ROUGH of 0: it may start", y.may(y.flight(0, 0, 0, 33)), 0);
        }
    }

    // ---- trains and spares

    private static void trainsByFour() {
        int[] miles = {10, 11, 12, 13, 16, 17, 399, 400};
        int[] quarters = {3, 3, 3, 4, 4, 5, 100, 100};
        for (int i = 0; i < miles.length; i++) {
            AirMail x = new AirMail();
            x.field(0, true, 0);
            x.field(0, true, 0);
            x.leg(0, 1, miles[i], 0);
            x.bag(1, 0, 1, 0, 0);
            x.step(2);
            Check.due("train over " + miles[i], x.train(0), 2 + quarters[i]);
            x.step(quarters[i]);
            Check.due("ahead of its quarter", x.where(0, 3), -1);
            x.step(1);
            Check.due("at its quarter", x.where(0, 3), 2 + quarters[i]);
        }
    }

    private static void sparesByEight() {
        int[] miles = {10, 15, 16, 17, 24, 25, 400};
        int[] quarters = {2, 2, 2, 3, 3, 4, 50};
        for (int i = 0; i < miles.length; i++) {
            AirMail x = new AirMail();
            x.field(0, true, 1);
            x.field(0, true, 0);
            x.leg(0, 1, miles[i], 0);
            x.plane(1, 20, 500, 100, 10, true);
            x.engine(0, 5, 5, 6);
            x.step(3);
            Check.due("needs", x.needs(), 1);
            Check.due("send over " + miles[i], x.send(), quarters[i]);
            Check.due("READY", x.of(0, 7), 3 + quarters[i]);
            Check.due("USED", x.of(0, 5), 0);
            x.engine(0, 5, 5, 0);
            x.step(quarters[i] - 1);
            Check.due("sent for to the last quarter", x.needs(), 0);
            x.step(1);
            Check.due("READY is NOW", x.needs(), 1);
            x.step(1);
            Check.due("READY is ahead of NOW", x.needs(), 1);
        }
        AirMail none = new AirMail();
        none.field(0, true, 9);
        none.field(0, true, 0);
        none.plane(1, 20, 500, 100, 10, true);
        none.engine(0, 1, 1, 0);
        Check.due("no way for a spare", none.send(), 0);
        Check.row("none", none, -1);
        Check.due("it needs one still", none.needs(), 1);
        none.leg(0, 1, 80, 0);
        Check.due("a way now", none.send(), 10);
        Check.row("from 0", none, 0);
    }

    /** Spares of 0 .. 9 at one field for eight planes; of two planes alike the first is served. */
    private static void sparesShared() {
        for (int spares = 0; spares <= 9; spares++) {
            AirMail x = new AirMail();
            x.field(0, true, spares);
            x.field(0, true, 0);
            x.leg(0, 1, 80, 0);
            for (int i = 0; i < 8; i++) {
                x.plane(i % 2, 20, 500, 100, 10, true);
                x.engine(i, 1, 1, 0);
            }
            int here = Math.min(4, spares);
            int there = Math.min(4, Math.max(0, spares - 4));
            Check.due("sum with " + spares, x.send(), 10 * there);
            for (int i = 0; i < 8; i++) {
                int before = i / 2;
                boolean served = i % 2 == 0 ? before < here : before < there;
                Check.due("plane " + i + " of " + spares, x.row(i), served ? 0 : -1);
            }
            Check.due("need one still", x.needs(), 8 - here - there);
            x.engine(0, 1, 1, 0);
            Check.due("a ninth spare", x.send(), 0);
            Check.due("is there", x.row(0), spares == 9 ? 0 : -1);
        }
    }

    // ---- plans

    /** Of five to eight that wait the first six are planned; the others fly in any case. */
    private static void sixAndSeven() {
        for (int waiting = 0; waiting <= 8; waiting++) {
            AirMail x = new AirMail();
            x.field(0, true, 0);
            x.field(0, true, 0);
            x.leg(0, 1, 10, 0);
            Check.force(x, 0, 0, ":G");
            Check.force(x, 2, 0, "100");
            for (int i = 0; i < waiting; i++) {
                x.plane(0, 10, 50, 100, 1, true);
                x.pilot(0, 0);
                x.bag(0, 1, 50, 0, 0);
                x.flight(i, i, 0, 0);
            }
            Check.due(waiting + " that pay", x.plan(1), 99 * waiting);
            Check.row("the first six", x, (1 << Math.min(6, waiting)) - 1);
            x.set(2, 99);
            Check.due("1 each", x.plan(1), waiting);
            Check.force(x, 2, 0, "99");
            Check.due("for nothing", x.plan(1), 0);
            Check.row("the fewest", x, 0);
            Check.force(x, 2, 0, "98");
            Check.due("each costs 1", x.plan(1), -Math.max(0, waiting - 6));
            Check.row("none of the six", x, 0);
            for (int i = 0; i < waiting; i++) {
                Check.due("it waits still", x.flown(i, 0), 0);
            }
        }
    }

    /** Fields that have the same lamps to win: the first row of them. */
    private static void lampsByNumber() {
        for (int fields = 1; fields <= 8; fields++) {
            AirMail x = new AirMail();
            for (int i = 0; i < fields; i++) {
                x.field(0, false, 0);
            }
            Check.due("none", x.lamps(0, 200), 0);
            Check.row("no field", x);
            Check.due("one", x.lamps(1, 200), 0);
            Check.row("the first", x, 0);
            Check.due("two", x.lamps(2, 200), fields >= 2 ? 0 : -1);
            if (fields >= 2) {
                Check.row("the first two", x, 0, 1);
            } else {
                Check.row("as it was", x, 0);
            }
            x.lamp(0, true);
            Check.due("one of the others", x.lamps(1, 0), fields >= 2 ? 0 : -1);
            Check.row("the next", x, fields >= 2 ? 1 : 0);
            Check.due("two of the others", x.lamps(2, 0), fields >= 3 ? 0 : -1);
            Check.due("their row", x.count(10), fields >= 3 ? 2 : 1);
        }
        for (int i = 0; i < 8; i++) {
            for (int k = 1; k <= 2; k++) {
                AirMail x = new AirMail();
                for (int f = 0; f < 8; f++) {
                    x.field(0, false, 0);
                }
                nightMail(x, i, (i + 1) % 8);
                Check.due("a lamp at " + i, x.lamps(k, 3), 1);
                Check.due("is the first of the row", x.row(k == 2 && i > 0 ? 1 : 0), i);
                Check.due("or the other one", k == 1 || x.row(i > 0 ? 0 : 1) == (i > 0 ? 0 : 1), true);
            }
        }
    }

    /** A plane comes to field at by night, and is to take a bag on from there to another one. */
    private static void nightMail(AirMail x, int at, int to) {
        int from = (at + 2) % 8;
        x.leg(from, at, 10, 0);
        x.leg(at, to, 10, 0);
        x.plane(from, 10, 500, 100, 10, true);
        x.pilot(from, 0);
        x.bag(at, to, 10, 0, 1);
        x.flight(0, 0, 0, 0);
        x.flight(0, 0, 1, 1);
        Check.force(x, 0, 0, ":G");
    }

    /** A bag that is given at its DUE is not late. */
    private static void lampsInTimeToTheQuarter() {
        for (int n = 0; n <= 3; n++) {
            for (int late = 0; late <= 1; late++) {
                AirMail x = new AirMail();
                for (int f = 0; f < 8; f++) {
                    x.field(0, false, 0);
                }
                nightMail(x, 3, 4);
                x.bag(3, 4, 10, 0, 1 - late);
                int given = n < 2 ? 0 : late == 0 ? 2 : 1;
                Check.due("in " + n + " quarters", x.lamps(1, n), given);
                Check.row("where", x, given == 0 ? 0 : 3);
            }
        }
    }

    /** The first 16 steps are kept, however many there are. */
    private static void sixteenSteps() {
        for (int turns = 0; turns <= 10; turns++) {
            AirMail x = new AirMail();
            x.field(0, true, 0);
            x.field(0, true, 0);
            x.leg(0, 1, 40, 0);
            x.plane(0, 20, 500, 100, 10, true);
            x.pilot(0, 0);
            Check.force(x, 0, 0, ":G");
            Check.force(x, 1, 0, ":T");
            Check.force(x, 1, 20, ":G");
            x.bag(0, 1, 5, 0, 100);
            for (int i = 0; i < turns; i++) {
                x.flight(0, 0, 0, i);
            }
            x.step(20);
            x.flight(0, 0, 0, 20);
            x.step(3);
            int steps = Math.min(16, 1 + 2 * turns + 2);
            Check.due("steps of " + turns, x.lead(0), steps);
            Check.due("numbers", x.count(10), 2 * steps);
            Check.due("the last quarter", x.row(2 * steps - 2), turns <= 6 ? 21 : turns == 7 ? 20 : 7);
            Check.due("the last place", x.row(2 * steps - 1), turns <= 6 ? 300 : 100);
            Check.due("given all the same", x.where(0, 3), 21);
        }
    }
}
