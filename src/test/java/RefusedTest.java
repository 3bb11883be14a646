/** Calls refused for what there is, or that do nothing: what they answer, and that nothing has changed behind them. */
public final class RefusedTest {
    public static void main(String[] args) {
        busyWorld();
        nothingThere();
        allFieldsAndLegs();
        allGrounds();
        allWeather();
        allWords();
        allPlanesAndPilots();
        allBags();
        allFlights();
        allTexts();
        allSigns();
        allLooks();
        wrongTexts();
        endOfTime();
        noWay();
        fewDarkFields();
        askingChangesNothing();
        trialsChangeNothing();
        whatIsDoneTwice();
        Check.finish();
    }

    /** The world of the tests is as its description says. */
    private static void busyWorld() {
        AirMail x = new AirMail();
        Worlds.busy(x);
        int[] counts = {Worlds.NOW, Worlds.FIELDS, Worlds.LEGS, Worlds.PLANES, Worlds.PILOTS, Worlds.BAGS,
            Worlds.FLIGHTS, 3, 1, 15, Worlds.ROW, Worlds.SIGNS, 1};
        for (int what = 0; what < counts.length; what++) {
            Check.due("busy: count(" + what + ")", x.count(what), counts[what]);
        }
        Check.due("aloft", x.of(Worlds.ALOFT, 10), 1);
        Check.due("a bag on it", x.where(5, 1), Worlds.ALOFT);
        Check.due("down", x.of(Worlds.DOWN, 3), 1);
        Check.due("a bag on it", x.where(4, 1), Worlds.DOWN);
        Check.due("looked for", x.look(Worlds.DOWN, 0, 1), 2);
        Check.due("sent for", x.of(Worlds.SENT_FOR, 7), 42);
        Check.due("worn", x.needs(), 1);
        Check.due("on a train", x.where(1, 2), 49);
        Check.due("given", x.where(3, 3), 0);
        int[] states = {0, 2, 4, 1, 0, 3, 0};
        for (int f = 0; f < states.length; f++) {
            Check.due("flight " + f, x.flown(f, 0), states[f]);
        }
        Check.row("the row", x, 0, 2, 0, 103, 0, 300);
    }

    /** A new object refuses all that needs something. */
    private static void nothingThere() {
        Twins.alike("a new object", Twins.NOTHING, x -> {
            Check.due("lamp", x.lamp(0, true), false);
            Check.due("leg", x.leg(0, 1, 10, 0), -1);
            Check.due("ground", x.ground(0, 1, 0), -1);
            Check.due("far", x.far(0, 0), -1);
            Check.due("weather", x.weather(0, 0, 0, 0), -1);
            Check.noSuch("sky", () -> x.sky(0, 0, 0));
            Check.due("word", x.word(0, 0, 0, 0, 0), -1);
            Check.noSuch("heard", () -> x.heard(0, 0, 0, 0));
            Check.due("plane", x.plane(0, 5, 50, 20, 1, true), -1);
            Check.due("engine", x.engine(0, 0, 1, 0), false);
            Check.due("pilot", x.pilot(0, 0), -1);
            Check.due("learns", x.learns(0, 0), false);
            Check.due("bag", x.bag(0, 1, 1, 0, 0), -1);
            Check.due("train", x.train(0), -1);
            Check.due("end(1)", x.end(1), false);
            Check.due("force of an empty text", x.force(0, 0), -1);
            Check.due("force of an empty law", x.force(2, 0), -1);
            Check.due("flight", x.flight(0, 0, 0, 0), -1);
            Check.due("cancel", x.cancel(0), false);
            Check.due("may", x.may(0), -1);
            Check.due("why", x.why(0, 0), -1);
            nothingToAsk(x);
        });
    }

    private static void nothingToAsk(AirMail x) {
        Check.noSuch("of", () -> x.of(0, 0));
        Check.noSuch("who", () -> x.who(0, 0));
        Check.noSuch("where", () -> x.where(0, 0));
        Check.due("flown", x.flown(0, 0), -1);
        Check.due("lead", x.lead(0), -1);
        Check.due("judge", x.judge(0), -1);
        Check.due("find", x.find(0), -1);
        Check.due("look", x.look(0, 0, 1), -1);
        Check.noSuch("chance", () -> x.chance(0, 0, 0));
        Check.due("lanes", x.lanes(0, 1, 1), -1);
        Check.due("lamps", x.lamps(1, 0), -1);
        Check.noSuch("row", () -> x.row(0));
    }

    private static void manyFields(AirMail x, int many) {
        for (int i = 0; i < many; i++) {
            x.field(i, i % 2 == 0, 1);
        }
    }

    private static void twoFields(AirMail x) {
        manyFields(x, 2);
        x.leg(0, 1, 100, 10);
    }

    private static void allFieldsAndLegs() {
        Twins.alike("8 fields, 12 legs", x -> {
            manyFields(x, 8);
            for (int i = 0; i < 12; i++) {
                x.leg(i % 8, (i + 1 + i / 8) % 8, 20 + i, i);
            }
            x.bag(0, 4, 1, 0, 0);
        }, x -> {
            Check.due("all fields", x.count(1), 8);
            Check.due("all legs", x.count(2), 12);
            Check.due("field", x.field(0, true, 9), -1);
            Check.due("leg", x.leg(0, 4, 10, 0), -1);
            Check.due("field 7 is there", x.far(7, 7), 0);
            Check.due("leg 11 is there", x.sky(11, 0, 0), 200);
        });
    }

    private static void allGrounds() {
        Twins.alike("4 grounds", x -> {
            twoFields(x);
            x.plane(0, 20, 500, 100, 10, true);
            x.pilot(0, 0);
            for (int i = 1; i <= 4; i++) {
                Check.due("ground", x.ground(0, 60 + i, 3), i);
            }
            Check.force(x, 0, 0, ":G");
            Check.force(x, 1, 0, "h=3:L;:G");
            x.flight(0, 0, 0, 0);
        }, x -> {
            Check.due("a fifth ground", x.ground(0, 40, 0), -1);
            Check.due("nor a worse one", x.ground(0, 40, 3), -1);
        });
    }

    private static void allWeather() {
        Twins.alike("60 told", x -> {
            twoFields(x);
            for (int i = 1; i <= 60; i++) {
                Check.due("weather", x.weather(0, 50 * i, i, i % 19 - 9), i);
            }
        }, x -> {
            Check.due("weather", x.weather(0, 0, 0, 9), -1);
            Check.due("nor for the same quarter", x.weather(0, 3000, 0, 9), -1);
        });
    }

    private static void allWords() {
        Twins.alike("120 words", x -> {
            twoFields(x);
            x.step(5);
            for (int i = 1; i <= 120; i++) {
                Check.due("word", x.word(i % 2, 0, i % 4, i, 0), i);
            }
        }, x -> {
            Check.due("word", x.word(0, 0, 5, 0, 9), -1);
            Check.due("word there", x.word(1, 0, 5, 0, 9), -1);
        });
    }

    private static void allPlanesAndPilots() {
        Twins.alike("8 planes, 8 pilots", x -> {
            twoFields(x);
            for (int i = 0; i < 8; i++) {
                Check.due("plane", x.plane(i % 2, 20, 500, 100, 10, true), i);
                Check.due("pilot", x.pilot(i % 2, i % 2), i);
            }
        }, x -> {
            Check.due("plane", x.plane(0, 60, 3000, 250, 60, false), -1);
            Check.due("pilot", x.pilot(0, 1), -1);
        });
    }

    private static void allBags() {
        Twins.alike("30 bags", x -> {
            twoFields(x);
            for (int i = 0; i < 30; i++) {
                Check.due("bag", x.bag(i % 2, 1 - i % 2, 10 + i, i % 10, 100 - i), i);
            }
            for (int i = 0; i < 3; i++) {
                x.plane(0, 20, 50, 100, 10, true);
                x.pilot(0, 0);
                x.flight(i, i, 0, i);
            }
            Check.force(x, 0, 0, ":G");
        }, x -> {
            Check.due("bag", x.bag(0, 1, 1, 0, 0), -1);
            Check.due("the other way", x.bag(1, 0, 1, 0, 0), -1);
        });
    }

    private static void allFlights() {
        Twins.alike("24 flights", x -> {
            twoFields(x);
            x.plane(0, 20, 500, 100, 10, true);
            x.pilot(0, 0);
            for (int i = 0; i < 24; i++) {
                Check.due("flight", x.flight(0, 0, 0, 100 - i), i);
            }
            Check.force(x, 0, 0, ":G");
        }, x -> Check.due("flight", x.flight(0, 0, 0, 0), -1));
        AirMail y = new AirMail();
        twoFields(y);
        y.plane(0, 20, 500, 100, 10, true);
        y.pilot(0, 0);
        for (int i = 0; i < 24; i++) {
            y.flight(0, 0, 0, 0);
            y.cancel(i);
        }
        Check.due("given up ones keep their places", y.flight(0, 0, 0, 0), -1);
    }

    private static void allTexts() {
        Twins.alike("20 rules, 12 laws", x -> {
            twoFields(x);
            x.plane(0, 20, 500, 100, 10, true);
            x.pilot(0, 0);
            x.bag(0, 1, 1, 0, 0);
            x.flight(0, 0, 0, 0);
            for (int i = 1; i <= 20; i++) {
                Check.due("rule", Check.force(x, i % 3 == 0 ? 1 : 0, 0, ":G"), i);
            }
            for (int i = 1; i <= 12; i++) {
                Check.due("law", Check.force(x, 2, 0, "5"), i);
            }
            x.step(10);
        }, x -> {
            Check.due("START", Check.force(x, 0, 0, ":W"), -100);
            Check.due("ALOFT", Check.force(x, 1, 0, ":L"), -100);
            Check.due("LAW", Check.force(x, 2, 0, "9"), -100);
            Check.due("asked ahead of its signs", Check.force(x, 2, 0, "x"), -100);
        });
        AirMail laws = new AirMail();
        for (int i = 1; i <= 12; i++) {
            Check.due("law", Check.force(laws, 2, 0, "5"), i);
        }
        Check.due("all laws leave room for rules", Check.force(laws, 0, 0, ":G"), 1);
        AirMail rules = new AirMail();
        for (int i = 1; i <= 20; i++) {
            Check.due("wrong ones don't count", Check.force(rules, 0, 0, ":"), -2);
            Check.due("rule", Check.force(rules, 0, 0, ":G"), i);
        }
        Check.due("all rules leave room for laws", Check.force(rules, 2, 0, "1"), 1);
    }

    private static void allSigns() {
        for (int length = 97; length <= 100; length++) {
            int signs = length;
            Twins.alike(length + " signs", x -> {
                for (int i = 0; i < 25; i++) {
                    Check.due("sign", x.sign(0x3A473B3A + i), 4 * (i + 1));
                }
                x.end(signs);
            }, x -> {
                Check.due("sign beyond 100", x.sign(0x3A473B3A), -1);
                Check.due("end behind them", x.end(signs + 1), false);
                Check.due("end(-1)", x.end(-1), false);
                Check.due("end where it is", x.end(signs), true);
                Check.due("all signs are there", x.count(11), signs);
            });
        }
    }

    private static void allLooks() {
        Twins.alike("4 looks", x -> {
            Worlds.busy(x);
            for (int i = 2; i <= 4; i++) {
                Check.due("look", x.look(Worlds.DOWN, i, 20 * i), i);
            }
        }, x -> {
            Check.due("a fifth look", x.look(Worlds.DOWN, 1, 99), -1);
            Check.due("at a cell that was looked at", x.look(Worlds.DOWN, 2, 1), -1);
        });
    }

    /** A text that is not in order tells no rule; THE TEXT is empty then. */
    private static void wrongTexts() {
        String[][] wrong = {{"", "G", ":", ":G;", "c<1<2:G", "((c", "1?2:3:G", "-", "c-"}, {":W", ":T;:", "!"},
            {"", ":", "w?", "w?1:", "(w", "w;", "c"}};
        for (int kind = 0; kind < wrong.length; kind++) {
            int k = kind;
            for (String text : wrong[kind]) {
                Twins.alike("wrong: " + text, Worlds::busy,
                    x -> Check.due("force(" + k + ", 0) of " + text, Check.force(x, k, 0, text) < 0, true),
                    x -> x.end(0));
            }
        }
    }

    private static void endOfTime() {
        for (int early = 0; early <= 3; early++) {
            int left = early;
            Twins.alike("quarter " + (3000 - early), x -> {
                Worlds.busy(x);
                for (int i = 0; i < 7; i++) {
                    x.step(400);
                }
                x.step(3000 - 2800 - Worlds.NOW - left);
                Check.due("NOW", x.count(0), 3000 - left);
            }, x -> {
                Check.due("step", x.step(left + 1), -1);
                Check.due("a long step", x.step(400), -1);
                Check.due("tried", x.tried(left + 1), -1);
                Check.due("tried long", x.tried(200), -1);
                Check.due("plan", x.plan(left + 1), -1);
                Check.due("lamps", x.lamps(0, left + 1), -1);
                Check.due("flight", x.flight(0, 0, 0, 2999 - left), -1);
                Check.due("a flight behind the end", x.flight(0, 0, 0, 3001), -1);
                Check.due("a word seen later", x.word(0, 0, 3001 - left, 0, 0), -1);
                Check.due("nothing goes on", x.step(0), 3000 - left);
            });
        }
    }

    private static void noWay() {
        Twins.alike("a field without a way", x -> {
            Worlds.busy(x);
            x.field(0, true, 9);
            x.plane(4, 20, 500, 100, 10, true);
        }, x -> {
            Check.due("a bag to it", x.bag(0, 4, 1, 0, 0), -1);
            Check.due("a bag from it", x.bag(4, 0, 1, 0, 0), -1);
            Check.due("far from it", x.far(4, 0), -1);
            Check.due("far to it", x.far(3, 4), -1);
        });
    }

    private static void fewDarkFields() {
        Twins.alike("three fields without a lamp", x -> {
            Worlds.busy(x);
            x.lamp(2, false);
        }, x -> Check.due("three lamps", x.lamps(3, 10), -1));
        Twins.alike("one field without a lamp", x -> {
            Worlds.busy(x);
            x.lamp(1, true);
        }, x -> Check.due("two lamps", x.lamps(2, 10), -1));
        Twins.alike("no field without a lamp", x -> {
            Worlds.busy(x);
            x.lamp(1, true);
            x.lamp(3, true);
        }, x -> {
            Check.due("two lamps", x.lamps(2, 10), -1);
            Check.due("one lamp", x.lamps(1, 10), -1);
        });
        AirMail lit = new AirMail();
        lit.field(0, true, 0);
        Check.due("no lamp at no field", lit.lamps(0, 0), 0);
    }

    /** Calls that only ask: nor do they touch the ROW. */
    private static void askingChangesNothing() {
        Twins.alike("asking", Worlds::busy, x -> {
            for (int i = 0; i <= 12; i++) {
                x.count(i);
            }
            x.far(0, 3);
            x.sky(0, 99, 1);
            x.heard(1, 0, 2000, 0);
            for (int f = 0; f < Worlds.FLIGHTS; f++) {
                x.may(f);
                x.why(f, 0);
                x.why(f, 1);
                x.flown(f, 2);
            }
            for (int p = 0; p < Worlds.PLANES; p++) {
                x.of(p, 8);
                x.who(p, 2);
            }
            x.where(3, 5);
            x.judge(1);
            x.coin();
            x.chance(Worlds.DOWN, 3, 1);
            x.lanes(Worlds.DOWN, 60, 50);
            x.needs();
            x.row(5);
        });
    }

    /** All is as it was when something was tried out; a plan and lamps tell their ROW. */
    private static void trialsChangeNothing() {
        Twins.alike("tried", Worlds::busy, x -> {
            x.tried(0);
            x.tried(1);
            x.tried(8);
            x.tried(200);
        });
        Twins.alike("lead behind a plan and lamps", Worlds::busy, x -> {
            x.plan(0);
            x.plan(7);
            x.plan(200);
            x.lamps(0, 200);
            x.lamps(1, 60);
            x.lamps(2, 100);
            x.lead(3);
        });
        Twins.alike("a plan refused and one more", Worlds::busy, x -> {
            x.tried(150);
            x.plan(201);
            x.tried(-1);
            x.lamps(2, 201);
        });
        Twins.alike("words that would be lost in a trial", x -> {
            Worlds.busy(x);
            for (int i = x.count(7); i < 119; i++) {
                x.word(0, 0, 3, 77, 0);
            }
        }, x -> {
            x.tried(200);
            x.plan(100);
            x.lead(3);
        });
    }

    /** What is so already, told again. */
    private static void whatIsDoneTwice() {
        Twins.alike("told again", Worlds::busy, x -> {
            Check.due("a lamp that is there", x.lamp(0, true), true);
            Check.due("a lamp that is not there", x.lamp(1, false), true);
            Check.due("knows it already", x.learns(0, 4), true);
            Check.due("LAG", x.set(0, 5), 5);
            Check.due("GLIDE", x.set(1, 7), 7);
            Check.due("RATE", x.set(2, 3), 3);
            Check.due("end", x.end(Worlds.SIGNS), true);
            Check.due("no step", x.step(0), Worlds.NOW);
            Check.due("the same engine", x.engine(4, 400, 400, 3), true);
        });
    }
}
