/** The edges of WORLDS, SAYINGS and TIMES: each test is named by the words of the document that it is about. */
public final class BoundsOfWorlds extends Checks {
    private static final String FACTS8 = lines("fact *;", 8);
    private static final int[] NO_WORLDS = {-1, LEAST, LEAST + 1, MOST, 256, 257, 512, 65536, -256};
    private static final int[] NO_ROWS = {-1, LEAST, MOST, 12, 13, 16, 32, 64, 256, -12};
    // One who knows all of three FACTS, one who knows nothing; nobody may LIE.
    private static final String HONEST = "fact a;fact b;fact c;person p cost 0 knows a b c;person q cost 0;law 0;";

    public static void main(String[] args) {
        begin(args);
        worlds();
        minds();
        lying();
        sayings();
        times();
        left();
        proofs();
        end();
    }

    private static void worlds() {
        test("a number whose bit i is FACT i", BoundsOfWorlds::factBits);
        test("BASE: WORLDS in which all always are so", BoundsOfWorlds::baseSizes);
        test("how many WORLDS BASE has", BoundsOfWorlds::baseIsEmpty);
        test("In a WORLD a ROW is so, or not: a FACT as its bit; a if b: a, or not b", BoundsOfWorlds::rowForms);
        test("1 if a ROW is so in a WORLD, else 0; NONE if there is no such ROW, or the WORLD is none of BASE",
            BoundsOfWorlds::noRowsNoWorlds);
    }

    private static void factBits() {
        LieOfTwo x = of(FACTS8 + lines("row r* *;", 8));
        for (int fact = 0; fact < 8; fact++) {
            due("its bit alone", x.is(fact, 1 << fact), 1);
            due("all but its bit", x.is(fact, 255 - (1 << fact)), 0);
            due("no bit", x.is(fact, 0), 0);
            due("all bits", x.is(fact, 255), 1);
            for (int world : NO_WORLDS) {
                due("no WORLD " + world, x.is(fact, world), -1);
            }
        }
    }

    private static void baseSizes() {
        for (int n = 0; n <= 8; n++) {
            LieOfTwo x = of(lines("fact *;", n));
            int size = 1 << n;
            due("BASE of " + n, x.about(9), size);
            due("left", x.left(0), size);
            due("the first", x.world(0, 0), 0);
            due("the last", x.world(size - 1, 0), size - 1);
            due("one more", x.world(size, 0), -1);
            due("judge the last", x.judge(size - 1, 0), -1);
            due("judge one more", x.judge(size, 0), -2);
            due("rest in the last", x.rest(size - 1, 0), 0);
            due("rest in one more", x.rest(size, 0), -1);
            due("leagues in the last", x.leagues(size - 1, 0), 0);
            due("leagues in one more", x.leagues(size, 0), -2);
        }
        for (int fact = 0; fact < 8; fact++) {
            char name = (char) ('a' + fact);
            LieOfTwo x = of(FACTS8 + "always " + name + ";");
            due("half of them", x.about(9), 128);
            due("the first of them", x.world(0, 0), 1 << fact);
            due("the last of them", x.world(127, 0), 255);
            x = of(FACTS8 + "always not " + name + ";");
            due("the other half", x.about(9), 128);
            due("the last of the others", x.world(127, 0), 255 - (1 << fact));
        }
    }

    private static void baseIsEmpty() {
        LieOfTwo x = new LieOfTwo();
        due("0 is no FAULT", town(x, HOUSE + "always rain and not rain;"), 0);
        due("fault(0)", x.fault(0), 0);
        due("ROWS", x.about(2), 4);
        due("about(9)", x.about(9), 0);
        due("is", x.is(0, 0), -1);
        due("answers", x.answers(0, 0, 0), -1);
        due("lies", x.lies(3, false, true), 1);
        due("may", x.may(1, 0, false, true, 0), -1);
        due("left", x.left(0), 0);
        due("world", x.world(0, 0), -1);
        due("sure", x.sure(0, 0), -1);
        due("proof", x.proof(0, 0), -1);
        due("judge", x.judge(0, 0), -2);
        due("next", x.next(0, 0), -1);
        due("askings", x.askings(0, 0), -2);
        due("lasts", x.lasts(0, 1, 0, 0), -1);
        due("with", x.with(0, 0, 0), -1);
        due("rest", x.rest(0, 0), -1);
        due("truth", x.truth(0, 5, 5, 0, 0), -1);
        due("leagues", x.leagues(0, 0), -2);
        due("plain", x.plain(0), -1);
        due("vote", x.vote(0, 0, 0), -1);
        due("say", x.say(1, 0, false, true), 0);
        due("untell", x.untell(0), true);
        due("one that is not empty", town(x, HOUSE), 4);
        due("left", x.left(0), 4);
    }

    private static void rowForms() {
        LieOfTwo x = of("fact a;fact b;row ra a;row rb b;row ri a if b;row rn not ri;");
        int[][] so = {{0, 1, 0, 1}, {0, 0, 1, 1}, {1, 1, 0, 1}, {0, 0, 1, 0}};
        for (int row = 0; row < 4; row++) {
            for (int world = 0; world < 4; world++) {
                due("is(" + row + "," + world + ")", x.is(row, world), so[row][world]);
            }
        }
    }

    private static void noRowsNoWorlds() {
        LieOfTwo x = of(FACTS8 + "always a or b;person p cost 0;" + lines("row r* a;", 12));
        due("the last ROW", x.is(11, 1), 1);
        due("the last WORLD", x.is(11, 255), 1);
        due("so in none", x.is(11, 2), 0);
        due("none of BASE", x.is(0, 0), -1);
        due("none of BASE", x.is(0, 252), -1);
        for (int row : NO_ROWS) {
            due("no ROW " + row, x.is(row, 1), -1);
            due("no ROW " + row, x.answers(0, row, 1), -1);
        }
        x = of("fact a;row r a;");
        due("one ROW", x.is(0, 1), 1);
        due("not told", x.is(1, 1), -1);
        due("not told", x.is(11, 1), -1);
        due("one FACT", x.is(0, 2), -1);
        due("one FACT", x.is(0, 3), -1);
    }

    private static void minds() {
        test("NAME holds a: a is so in all WORLDS of BASE that have the same bits as this one at all FACTS that one knows",
            BoundsOfWorlds::holdings);
        test("thinks: in at least one of these", BoundsOfWorlds::thinkings);
        test("one answers 0 it is not, 1 it is, as one holds it (or that it is not), 2 else", BoundsOfWorlds::answerings);
    }

    private static void holdings() {
        // knows nothing: so in all of BASE
        LieOfTwo x = of("fact a;fact b;person p cost 0;row h holds p a;row g holds p b;always a;");
        due("in all of BASE", x.is(0, 1), 1);
        due("in one of two", x.is(1, 3), 0);
        // knows all: as it is
        x = of(FACTS8 + "person p cost 0 knows a b c d e f g h;row r a and b and c and d and e and f and g and h;row s holds p r;");
        due("the one WORLD", x.is(1, 255), 1);
        for (int fact = 0; fact < 8; fact++) {
            due("one bit off", x.is(1, 255 - (1 << fact)), 0);
        }
        // knows one: what the others are does not matter, if BASE has such WORLDS
        for (int known = 0; known < 8; known++) {
            char name = (char) ('a' + known);
            x = of(FACTS8 + "person p cost 0 knows " + name + ";" + lines("row r* holds p *;", 8));
            for (int fact = 0; fact < 8; fact++) {
                due("knows " + name + ", holds " + fact, x.is(fact, 255), fact == known ? 1 : 0);
                due("where it is not", x.is(fact, 255 - (1 << fact)), 0);
            }
        }
        for (int known = 0; known < 8; known++) {
            char name = (char) ('a' + known);
            x = of(FACTS8 + "person p cost 0 knows " + name + ";" + lines("row n* holds p not *;", 8));
            for (int fact = 0; fact < 8; fact++) {
                due("knows " + name + ", holds that not " + fact, x.is(fact, 0), fact == known ? 1 : 0);
                due("where it is not alone", x.is(fact, 255 - (1 << fact)), fact == known ? 1 : 0);
                due("where it is", x.is(fact, 255), 0);
            }
        }
        x = of("fact a;fact b;person p cost 0 knows a;row h holds p b;always a or b;");
        due("no other WORLD has these bits", x.is(0, 2), 1);
        due("one WORLD more has these bits", x.is(0, 3), 0);
        due("one WORLD more has these bits", x.is(0, 1), 0);
        x = of("fact a;person p cost 0 knows a;person q cost 0;row r holds p holds q a;row s holds q holds p a;"
            + "row t holds q (holds p a or holds p not a);");
        due("in one another", x.is(0, 1), 0);
        due("in one another", x.is(1, 1), 0);
        due("that the other knows", x.is(2, 1), 1);
    }

    private static void thinkings() {
        LieOfTwo x = of("fact a;fact b;person p cost 0;row t thinks p b;row u thinks p not a;row v thinks p (a and b);always a;");
        due("in one of BASE", x.is(0, 1), 1);
        due("in none of BASE", x.is(1, 1), 0);
        due("in one of BASE", x.is(2, 1), 1);
        x = of(FACTS8 + "person p cost 0 knows a b c d e f g;row r a and b and c and d and e and f and g and h;row s thinks p r;"
            + "row t holds p r;");
        due("this one", x.is(1, 255), 1);
        due("the other one", x.is(1, 127), 1);
        due("neither", x.is(1, 126), 0);
        due("neither", x.is(1, 254), 0);
        due("not held", x.is(2, 255), 0);
        for (int known = 0; known < 8; known++) {
            char name = (char) ('a' + known);
            x = of(FACTS8 + "person p cost 0 knows " + name + ";" + lines("row r* thinks p *;", 8));
            for (int fact = 0; fact < 8; fact++) {
                due("knows " + name + ", thinks " + fact, x.is(fact, 0), fact == known ? 0 : 1);
                due("where it is not", x.is(fact, 255 - (1 << fact)), fact == known ? 0 : 1);
                due("where it is", x.is(fact, 1 << fact), 1);
            }
        }
        x = of("fact a;person p cost 0 knows a;row r thinks p a;");
        due("knows it", x.is(0, 0), 0);
        due("knows it", x.is(0, 1), 1);
    }

    private static void answerings() {
        LieOfTwo x = of("fact a;fact b;person p cost 0 knows a;row ra a;row rb b;row rab a and b;row rob a or b;");
        int[][] due = {{0, 1, 0, 1}, {2, 2, 2, 2}, {0, 2, 0, 2}, {2, 1, 2, 1}};
        for (int row = 0; row < 4; row++) {
            for (int world = 0; world < 4; world++) {
                due("answers(0," + row + "," + world + ")", x.answers(0, row, world), due[row][world]);
            }
        }
        for (int person : new int[] {-1, 1, 7, 8, 16, 32, 256, LEAST, MOST, -32}) {
            due("no PERSON " + person, x.answers(person, 0, 0), -1);
        }
        for (int world : new int[] {-1, 4, 5, 64, LEAST, MOST}) {
            due("no WORLD " + world, x.answers(0, 0, world), -1);
        }
        x = of(lines("person * cost 0;", 8) + "fact a;row r a;");
        due("the last PERSON", x.answers(7, 0, 0), 2);
        due("one more", x.answers(8, 0, 0), -1);
    }

    private static void lying() {
        test("PERSONS (as bits, at least one)", BoundsOfWorlds::personBits);
        test("They may LIE, if law f is not 0", BoundsOfWorlds::notZero);
        test("voices: how many they are", BoundsOfWorlds::voices);
        test("tied: 1 if two of them are tied", BoundsOfWorlds::tied);
        test("thinks: 1 if it is a thinking one", BoundsOfWorlds::thinks);
        test("then it can be said in all WORLDS", BoundsOfWorlds::saidInAll);
        test("if each of them holds it (surely), or thinks it possible (thinks)", BoundsOfWorlds::eachOfThem);
        test("1 if it can be said in a WORLD, else 0; NONE if one can't be", BoundsOfWorlds::mayBe);
    }

    private static void personBits() {
        for (int n = 0; n <= 8; n++) {
            LieOfTwo x = of(lines("person * cost 0;", n) + "fact a;row r a;law 1;");
            int all = (1 << n) - 1;
            due("all of " + n, x.lies(all, false, true), n == 0 ? -1 : 1);
            due("all of them say", x.say(all, 0, false, true), n == 0 ? -1 : 0);
            due("all of them may", x.may(all, 0, false, true, 0), n == 0 ? -1 : 1);
            for (int bits : new int[] {0, all + 1, 1 << n | 1, 256, 257, 511, 1 << 16, LEAST, LEAST | 1, -1, MOST}) {
                due("no PERSONS " + bits, x.lies(bits, true, false), -1);
                due("no PERSONS " + bits, x.say(bits, 0, false, false), -1);
                due("no PERSONS " + bits, x.may(bits, 0, false, false, 0), -1);
            }
        }
    }

    private static void notZero() {
        String one = "person p cost 0;";
        due("0", of(one + "law 0;").lies(1, false, true), 0);
        due("1", of(one + "law 1;").lies(1, false, true), 1);
        due("2", of(one + "law 2;").lies(1, false, true), 1);
        due("9999", of(one + "law 9999;").lies(1, false, true), 1);
        due("-1", of(one + "law 0 - 1;").lies(1, false, true), 1);
        due("-9999", of(one + "law 0 - 9999;").lies(1, false, true), 1);
        due("1 - 1", of(one + "law 1 - 1;").lies(1, false, true), 0);
        due("256", of(one + "law 256;").lies(1, false, true), 1);
        due("-1 or 0", of(one + "law 0 - 1 or 0;").lies(1, false, true), 1);
    }

    private static void voices() {
        for (int n = 1; n <= 8; n++) {
            LieOfTwo x = of(lines("person * cost 0;", 8) + "law voices = " + n + ";");
            due("so many", x.lies((1 << n) - 1, false, true), 1);
            due("so many others", x.lies((1 << n) - 1 << 8 - n, true, false), 1);
            due("one more", x.lies((2 << n) - 1 & 255, false, true), n == 8 ? 1 : 0);
            due("one fewer", x.lies(n == 1 ? 3 : (1 << n - 1) - 1, false, true), 0);
        }
    }

    private static void tied() {
        String four = lines("person * cost 0;", 4);
        LieOfTwo x = of(four + "tie a b price 0;tie b c price 0;tie c a price 0;law tied = 1;");
        due("two", x.lies(3, false, true), 1);
        due("three, tied all", x.lies(7, false, true), 1);
        due("one tied to others", x.lies(1, false, true), 0);
        due("one of them, one not", x.lies(9, false, true), 0);
        due("two of them, one not", x.lies(13, true, false), 1);
        due("no ties", of(four + "law tied;").lies(15, false, true), 0);
        // by a third, who does not say it
        x = of(four + "tie a b price 0;tie b c price 0;law tied;");
        due("tied by a third alone", x.lies(5, false, true), 0);
        due("with the third", x.lies(7, false, true), 1);
        x = of(lines("person * cost 0;", 8) + "tie h a price 0;law tied;");
        due("the last and the first", x.lies(129, false, true), 1);
        due("all but the last", x.lies(127, false, true), 0);
        due("all but the first", x.lies(254, false, true), 0);
    }

    private static void thinks() {
        LieOfTwo x = of("person p cost 0;law thinks = 1;");
        due("a thinking one", x.lies(1, false, false), 1);
        due("a sure one", x.lies(1, false, true), 0);
        due("a thinking one apart", x.lies(1, true, false), 1);
        due("a sure one apart", x.lies(1, true, true), 0);
        // two who are tied, two who are not; apart or not; surely or not
        for (int way = 0; way < 8; way++) {
            boolean isTied = (way & 1) != 0;
            boolean apart = (way & 2) != 0;
            boolean surely = (way & 4) == 0;
            int two = isTied ? 3 : 5;
            String four = lines("person * cost 0;", 4) + "tie a b price 0;";
            due("tied", of(four + "law tied;").lies(two, apart, surely), isTied ? 1 : 0);
            due("apart", of(four + "law apart;").lies(two, apart, surely), apart ? 1 : 0);
            due("thinks", of(four + "law thinks;").lies(two, apart, surely), surely ? 0 : 1);
            due("voices", of(four + "law voices = 2;").lies(two, apart, surely), 1);
            due("voices", of(four + "law voices < 2 or voices > 2;").lies(two, apart, surely), 0);
            due("all of them", of(four + "law tied + apart + thinks = 3;").lies(two, apart, surely), way == 7 ? 1 : 0);
            due("none of them", of(four + "law tied + apart + thinks = 0;").lies(two, apart, surely), way == 0 ? 1 : 0);
        }
        x = of("person p cost 0;law apart = 1;");
        due("apart", x.lies(1, true, true), 1);
        due("together", x.lies(1, false, true), 0);
        due("apart, thinking", x.lies(1, true, false), 1);
        due("together, thinking", x.lies(1, false, false), 0);
    }

    private static void saidInAll() {
        LieOfTwo x = of("fact a;fact b;person p cost 0 knows a b;row r a and not a;always a or b;law 1;");
        for (int world = 1; world < 4; world++) {
            due("what is never so", x.may(1, 0, false, true, world), 1);
        }
        due("say", x.say(1, 0, false, true), 0);
        due("all are LEFT", x.left(0), 3);
        due("judge", x.judge(2, 0), -1);
    }

    private static void eachOfThem() {
        LieOfTwo x = of("fact x;fact y;" + lines("person * cost 0 knows x;", 7)
            + "person h cost 0 knows y;row r x;row s y;law 0;");
        due("seven hold it", x.may(127, 0, false, true, 1), 1);
        due("the eighth does not", x.may(255, 0, false, true, 1), 0);
        due("all think it possible", x.may(255, 0, false, false, 1), 1);
        due("the eighth alone", x.may(128, 0, false, false, 0), 1);
        due("seven hold that it is not", x.may(255, 0, false, false, 0), 0);
        due("one of them", x.may(129, 0, false, false, 0), 0);
        due("apart is alike", x.may(255, 0, true, true, 1), 0);
        due("apart is alike", x.may(127, 0, true, true, 1), 1);
        // one who knows one of eight FACTS
        for (int known = 0; known < 8; known++) {
            x = of(FACTS8 + lines("person * cost 0 knows *;", 8) + lines("row r* *;", 8) + "law 0;");
            for (int row = 0; row < 8; row++) {
                boolean knows = row == known;
                due("thinks, where it is not", x.may(1 << known, row, false, false, 255 - (1 << row)), knows ? 0 : 1);
                due("thinks, where it alone is", x.may(1 << known, row, false, false, 1 << row), 1);
                due("surely, where it alone is", x.may(1 << known, row, false, true, 1 << row), knows ? 1 : 0);
                due("surely, where all are", x.may(1 << known, row, false, true, 255), knows ? 1 : 0);
            }
            due("thinks what one knows", x.say(1 << known, known, false, false), 0);
            due("half is LEFT", x.left(0), 128);
            due("the first", x.world(0, 0), 1 << known);
            due("the last", x.world(127, 0), 255);
        }
    }

    private static void mayBe() {
        for (String law : new String[] {"law 0;", "law 1;"}) {
            LieOfTwo x = of(FACTS8 + "always a or b;person p cost 0;" + lines("row r* a;", 12) + law);
            due("can be", x.may(1, 11, false, false, 255), 1);
            for (int row : NO_ROWS) {
                due("no ROW " + row, x.may(1, row, false, false, 1), -1);
                due("no ROW " + row, x.say(1, row, false, false), -1);
            }
            for (int world : NO_WORLDS) {
                due("no WORLD " + world, x.may(1, 0, false, false, world), -1);
            }
            due("none of BASE", x.may(1, 0, false, false, 0), -1);
            due("doing nothing", x.about(5), 0);
        }
    }

    private static void sayings() {
        test("SAYINGS, 40 at most", BoundsOfWorlds::forty);
        test("It is UNTOLD: true; false if it is so already, or there is none such", BoundsOfWorlds::untelling);
    }

    private static void forty() {
        LieOfTwo x = of(HONEST + "row r a or not a;row s b;");
        due("NONE told yet", x.about(5), 0);
        for (int i = 0; i < 40; i++) {
            due("the number", x.say(1, 0, i % 2 == 0, true), i);
        }
        due("a 41st", x.say(1, 1, false, true), -1);
        due("doing nothing", x.about(5), 40);
        due("doing nothing", x.left(0), 8);
        due("untell", x.untell(0), true);
        due("untold ones have their places", x.say(1, 1, false, true), -1);
        due("doing nothing", x.left(0), 8);
        due("image", x.image(0), 40);
        due("another TOWN", town(x, HONEST + "row r a;"), 8);
        due("from 0 again", x.say(1, 0, false, true), 0);
        due("SAYINGS", x.about(5), 1);
        // the last one counts as the first does
        x = of(HONEST + "row r a or not a;row s b;");
        for (int i = 0; i < 39; i++) {
            x.say(1, 0, false, true);
        }
        due("the 40th", x.say(1, 1, false, true), 39);
        due("it counts", x.left(0), 4);
        due("judge", x.judge(0, 0), 39);
        due("untell", x.untell(39), true);
        due("it counts no more", x.left(0), 8);
    }

    private static void untelling() {
        LieOfTwo x = of(HONEST + "row r a;");
        due("nothing told yet", x.untell(0), false);
        x.say(1, 0, false, true);
        for (int saying : new int[] {-1, 1, 39, 40, 41, 64, 256, LEAST, MOST}) {
            due("none such " + saying, x.untell(saying), false);
        }
        due("it counts", x.left(0), 4);
        due("it is UNTOLD", x.untell(0), true);
        due("so already", x.untell(0), false);
        x.later(1);
        due("so already, later", x.untell(0), false);
        due("UNTOLD at 0", x.left(0), 8);
        due("another", x.say(1, 0, false, true), 1);
        due("the first again", x.untell(0), false);
        due("the second", x.untell(1), true);
    }

    private static void times() {
        test("TOLD at a TIME (0 at first, goes on), UNTOLD at a later one or the same", BoundsOfWorlds::timesTold);
        test("As known at k those count that were TOLD at k or before, not UNTOLD at k or before", BoundsOfWorlds::knownAt);
        test("So much later (0 .. 1000): the TIME; NONE, doing nothing, for another number, or if it would be above 100,000",
            BoundsOfWorlds::laterBounds);
    }

    private static void timesTold() {
        LieOfTwo x = of(HONEST + "row r a;row s b;");
        due("0 at first", x.about(6), 0);
        x.say(1, 0, false, true);
        due("ahead of all", x.left(-1), 8);
        due("at 0", x.left(0), 4);
        due("UNTOLD at the same", x.untell(0), true);
        due("at 0", x.left(0), 8);
        x.later(3);
        x.say(1, 1, false, true);
        due("at 2", x.left(2), 8);
        due("at 3", x.left(3), 4);
        x.later(0);
        due("UNTOLD at the same", x.untell(1), true);
        due("at 3", x.left(3), 8);
        due("at 4", x.left(4), 8);
    }

    /** TOLD at 5, UNTOLD at 7: each call that asks what is known at k. */
    private static void knownAt() {
        LieOfTwo x = of("fact a;fact b;person p cost 0 knows a;person q cost 1 knows b;row ra a;row rb b;"
            + "row rx (a or b) and not (a and b);law 0;");
        x.later(5);
        x.say(1, 0, false, true);
        x.later(2);
        x.untell(0);
        for (int k : new int[] {LEAST, -1, 0, 4, 5, 6, 7, 8, 100000, MOST}) {
            boolean counts = k == 5 || k == 6;
            String at = " at " + k;
            due("left" + at, x.left(k), counts ? 2 : 4);
            due("world" + at, x.world(0, k), counts ? 1 : 0);
            due("sure" + at, x.sure(0, k), counts ? 1 : -2);
            due("proof" + at, x.proof(0, k), counts ? 1 : -1);
            due("judge" + at, x.judge(0, k), counts ? 0 : -1);
            due("next" + at, x.next(0, k), counts ? 1 : 0);
            due("next" + at, x.next(2, k), counts ? 1 : 2);
            due("askings" + at, x.askings(2, k), counts ? 1 : 2);
            due("truth" + at, x.truth(0, 10, 10, 1, k), counts ? 1 : 2);
            due("plain" + at, x.plain(k), counts ? 1 : 0);
        }
        x = of(HOUSE);
        x.later(5);
        x.say(3, 0, false, true);
        x.later(2);
        x.untell(0);
        for (int k : new int[] {LEAST, -1, 0, 4, 5, 6, 7, 8, 100000, MOST}) {
            boolean counts = k == 5 || k == 6;
            due("leagues at " + k, x.leagues(0, k), counts ? 1 : 0);
            due("plain at " + k, x.plain(k), counts ? 1 : 0);
        }
    }

    private static void laterBounds() {
        LieOfTwo x = new LieOfTwo();
        due("0", x.later(0), 0);
        due("1000", x.later(1000), 1000);
        for (int by : new int[] {-1, 1001, LEAST, MOST, MOST - 999, 2000, -1000, 65536}) {
            due("another number " + by, x.later(by), -1);
        }
        due("doing nothing", x.about(6), 1000);
        due("1", x.later(1), 1001);
        for (int i = 0; i < 98; i++) {
            x.later(1000);
        }
        due("99,001", x.about(6), 99001);
        due("above 100,000", x.later(1000), -1);
        due("doing nothing", x.about(6), 99001);
        due("99,999", x.later(998), 99999);
        due("above 100,000", x.later(2), -1);
        due("doing nothing", x.later(0), 99999);
        due("100,000", x.later(1), 100000);
        due("above 100,000", x.later(1), -1);
        due("0 still", x.later(0), 100000);
        due("an other TOWN", town(x, HONEST + "row r a;"), 8);
        due("TIME stays", x.about(6), 100000);
        x.say(1, 0, false, true);
        due("at 99,999", x.left(99999), 8);
        due("at 100,000", x.left(100000), 4);
        due("at the greatest", x.left(MOST), 4);
    }

    private static void left() {
        test("LEFT: WORLDS of BASE in which all SAYINGS that count can be said", BoundsOfWorlds::leftOver);
        test("The i-th WORLD that is LEFT (by number); NONE if there is none such", BoundsOfWorlds::worldsLeft);
        test("a ROW that is so in all that are LEFT", BoundsOfWorlds::ofMany);
        test("SURE: a ROW that is so in all that are LEFT", BoundsOfWorlds::sureOrNot);
        test("1 if a ROW is SURE, 0 if it is so in none that is LEFT, -2 if in some; NONE if there is none such, or none is LEFT",
            BoundsOfWorlds::sureOrNot);
        test("The first SAYING that counts that could not be said in a WORLD; NONE if all could; -2 if the WORLD is none of BASE",
            BoundsOfWorlds::judging);
    }

    private static void leftOver() {
        LieOfTwo x = of(HONEST + "row ra a;row rb b;row rc c;row na not a;always a or b or c;");
        due("nothing told: BASE", x.left(0), 7);
        x.say(1, 0, false, true);
        due("one", x.left(0), 4);
        x.say(1, 1, false, false);
        due("two", x.left(0), 2);
        x.say(1, 2, true, true);
        due("one WORLD", x.left(0), 1);
        due("it", x.world(0, 0), 7);
        x.say(2, 3, false, false);
        due("what one thinks possible", x.left(0), 1);
        x.say(1, 3, false, false);
        due("none", x.left(0), 0);
        due("none", x.world(0, 0), -1);
        due("NEXT", x.next(2, 0), -1);
        due("TRUTH", x.truth(0, 5, 5, 0, 0), -1);
        due("PROOF", x.proof(0, 0), -1);
        due("ASKINGS", x.askings(0, 0), -2);
        due("SURE", x.sure(0, 0), -1);
        due("PLAIN", x.plain(0), -1);
        due("leagues in a WORLD of BASE", x.leagues(1, 0), 0);
        due("untell", x.untell(4), true);
        due("one again", x.left(0), 1);
    }

    private static void worldsLeft() {
        LieOfTwo x = of(FACTS8 + "person p cost 0 knows h a;row r h;row s a;law 0;");
        due("the last", x.world(255, 0), 255);
        for (int i : new int[] {-1, 256, 257, LEAST, MOST, -256}) {
            due("none such " + i, x.world(i, 0), -1);
        }
        x.say(1, 0, false, true);
        due("the first", x.world(0, 0), 128);
        due("the last", x.world(127, 0), 255);
        due("one more", x.world(128, 0), -1);
        x.say(1, 1, false, true);
        due("the first", x.world(0, 0), 129);
        due("the second", x.world(1, 0), 131);
        due("the last", x.world(63, 0), 255);
        due("one more", x.world(64, 0), -1);
    }

    /** What is LEFT of 256 WORLDS, by one who knows all eight FACTS. */
    private static void ofMany() {
        LieOfTwo x = of(FACTS8 + "person p cost 0 knows a b c d e f g h;" + lines("row r* *;", 8) + "row gh g and h;row x g or h;law 0;");
        for (int row = 0; row < 8; row++) {
            due("in half of them", x.sure(row, 0), -2);
        }
        x.say(1, 0, false, true);
        x.say(1, 6, false, true);
        x.say(1, 7, false, true);
        due("left", x.left(0), 32);
        due("the first", x.world(0, 0), 193);
        due("sure", x.sure(8, 0), 1);
        due("by two", x.proof(8, 0), 6);
        due("by one of two", x.proof(9, 0), 2);
        due("by one", x.proof(0, 0), 1);
        due("by one", x.proof(6, 0), 2);
        due("by one", x.proof(7, 0), 4);
        due("judge", x.judge(63, 0), 1);
        due("judge", x.judge(127, 0), 2);
        due("judge", x.judge(192, 0), 0);
        x.say(1, 8, false, true);
        due("by one", x.proof(8, 0), 8);
        due("by the first of three", x.proof(9, 0), 2);
        x.untell(1);
        due("what counts is numbered anew", x.proof(8, 0), 4);
    }

    private static void sureOrNot() {
        LieOfTwo x = of(FACTS8 + "person p cost 0 knows a b c d e f g h;row r a or b or c or d or e or f or g or h;row s not r;row t a;law 0;");
        due("in all but one", x.sure(0, 0), -2);
        due("in one", x.sure(1, 0), -2);
        for (int row : NO_ROWS) {
            due("no ROW " + row, x.sure(row, 0), -1);
            due("no ROW " + row, x.proof(row, 0), -1);
        }
        due("not told", x.sure(3, 0), -1);
        x.say(1, 0, false, true);
        due("in all", x.sure(0, 0), 1);
        due("in none", x.sure(1, 0), 0);
        due("in some", x.sure(2, 0), -2);
        x.untell(0);
        x.say(1, 1, false, true);
        due("in none", x.sure(0, 0), 0);
        due("in all", x.sure(1, 0), 1);
        due("in none of the one", x.sure(2, 0), 0);
        x.say(1, 0, false, true);
        due("none is LEFT", x.sure(0, 0), -1);
        due("none is LEFT", x.sure(1, 0), -1);
    }

    private static void judging() {
        LieOfTwo x = of(HONEST + "always a or b;row ra a;row rb b;row nc not c;");
        due("nothing told: all could", x.judge(1, 0), -1);
        x.say(1, 0, false, true);
        x.say(1, 1, false, true);
        x.say(1, 2, false, true);
        due("all could", x.judge(3, 0), -1);
        due("the first", x.judge(6, 0), 0);
        due("the second", x.judge(5, 0), 1);
        due("the third", x.judge(7, 0), 2);
        for (int world : new int[] {0, 4, 8, -1, LEAST, MOST, 256}) {
            due("none of BASE " + world, x.judge(world, 0), -2);
        }
        x.later(1);
        x.untell(0);
        due("by its number, not by those that count", x.judge(5, 1), 1);
        due("one that counts no more", x.judge(2, 1), -1);
        due("as known ahead", x.judge(2, 0), 0);
    }

    private static void proofs() {
        test("the fewest SAYINGS that count by which alone it is SURE", BoundsOfWorlds::fewest);
        test("(of the SAYINGS that count, by number, bit 0 the first)", BoundsOfWorlds::proofBits);
        test("of like ones the least number; SPENT if more than 10 count", BoundsOfWorlds::spent);
        test("PROOF; NONE if it is not SURE, none is LEFT, or there is no such ROW; -2 if SPENT", BoundsOfWorlds::noProof);
    }

    private static void fewest() {
        LieOfTwo x = of(HONEST + "row ra a;row rb b;row rab a and b;row any a or not a;");
        due("by none", x.proof(3, 0), 0);
        x.say(1, 0, false, true);
        x.say(1, 1, false, true);
        due("by none still", x.proof(3, 0), 0);
        due("by both", x.proof(2, 0), 3);
        x.say(1, 2, false, true);
        due("by one, whose number is greater", x.proof(2, 0), 4);
        due("the least of like ones", x.proof(0, 0), 1);
        due("the least of like ones", x.proof(1, 0), 2);
        // the first and the last would do, or the two between them
        x = of(HONEST + "row p b or c;row q a or c;row s not a or c;row t not b or c;row u c;");
        for (int row = 0; row < 4; row++) {
            x.say(1, row, false, true);
        }
        due("6 is less than 9", x.proof(4, 0), 6);
    }

    private static void proofBits() {
        LieOfTwo x = of(HONEST + "row ra a;row rb b;row any a or not a;");
        for (int i = 0; i < 39; i++) {
            x.say(1, 2, false, true);
        }
        due("the 40th", x.say(1, 0, false, true), 39);
        x.later(1);
        due("SPENT", x.proof(0, 1), -2);
        for (int i = 0; i < 39; i++) {
            x.untell(i);
        }
        due("the only one that counts", x.proof(0, 1), 1);
        due("SPENT as known ahead", x.proof(0, 0), -2);
    }

    /** Four FACTS, ten ROWS that each rule out one WORLD, and one ROW that they make SURE only together. */
    private static String tenNeeded() {
        StringBuilder b = new StringBuilder(lines("fact *;", 4)).append("person p cost 0 knows a b c d;law 0;");
        StringBuilder all = new StringBuilder();
        for (int i = 0; i < 10; i++) {
            b.append("row r").append((char) ('a' + i)).append(" not (");
            for (int fact = 0; fact < 4; fact++) {
                b.append(fact > 0 ? " and " : "").append((i >> fact & 1) == 0 ? "not " : "").append((char) ('a' + fact));
            }
            b.append(");");
            all.append(i > 0 ? " and " : "").append('r').append((char) ('a' + i));
        }
        return b.append("row all ").append(all).append(";row any a or not a;").toString();
    }

    private static void spent() {
        LieOfTwo x = of(tenNeeded());
        for (int row = 0; row < 9; row++) {
            x.say(1, row, false, true);
        }
        due("nine are not enough", x.proof(10, 0), -1);
        x.say(1, 9, false, true);
        due("all ten", x.proof(10, 0), 1023);
        due("the tenth", x.proof(9, 0), 512);
        due("the first", x.proof(0, 0), 1);
        due("by none", x.proof(11, 0), 0);
        x.later(1);
        x.say(1, 11, false, true);
        due("eleven count", x.proof(10, 1), -2);
        due("eleven count", x.proof(0, 1), -2);
        due("eleven count, though it is SURE by none", x.proof(11, 1), -2);
        due("as known ahead", x.proof(10, 0), 1023);
        due("SURE all the same", x.sure(10, 1), 1);
        x.untell(10);
        due("ten again", x.proof(10, 1), 1023);
        x.later(1);
        x.untell(0);
        due("nine", x.proof(10, 2), -1);
        due("the first that counts is the second", x.proof(1, 2), 1);
    }

    private static void noProof() {
        LieOfTwo x = of(HONEST + "row ra a;row na not a;");
        due("not SURE", x.proof(0, 0), -1);
        for (int row : NO_ROWS) {
            due("no ROW " + row, x.proof(row, 0), -1);
        }
        for (int i = 0; i < 11; i++) {
            x.say(1, 0, false, true);
        }
        due("SPENT", x.proof(0, 0), -2);
        due("not SURE", x.proof(1, 0), -1);
        due("no ROW", x.proof(2, 0), -1);
        x.say(1, 1, false, true);
        due("none is LEFT", x.proof(0, 0), -1);
    }
}
