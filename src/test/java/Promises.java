/** For each promise of the document: ordinary calls, the edges that it names, and wrong ones. */
public final class Promises extends Checks {
    public static void main(String[] args) {
        begin(args);
        newObject();
        feedAndEnd();
        towns();
        tokenFaults();
        standingFaults();
        tooManyFaults();
        nameFaults();
        depthAndUnits();
        rowsInWorlds();
        answers();
        laws();
        may();
        sayings();
        times();
        leftAndWorld();
        sure();
        proof();
        judge();
        next();
        askings();
        lastsAndWith();
        rest();
        truth();
        leagues();
        plain();
        vote();
        boxes();
        about();
        end();
    }

    private static void newObject() {
        section("promise 1");
        LieOfTwo x = new LieOfTwo();
        due("NONE", LieOfTwo.NONE, -1);
        for (int what = 0; what < 9; what++) {
            due("about", x.about(what), 0);
        }
        due("about(9)", x.about(9), 1);
        due("world", x.world(0, 0), 0);
        due("is", x.is(0, 0), -1);
        due("answers", x.answers(0, 0, 0), -1);
        due("lies", x.lies(1, true, true), -1);
        due("vote", x.vote(0, 0, 0), -1);
        due("sure", x.sure(0, 0), -1);
        due("proof", x.proof(0, 0), -1);
        due("truth", x.truth(0, 1, 1, 0, 0), -1);
        due("next", x.next(2, 0), -1);
        due("askings", x.askings(0, 0), -2);
        due("plain", x.plain(0), 0);
        due("leagues", x.leagues(0, 0), 0);
        due("back", x.back(0), -1);
    }

    private static void feedAndEnd() {
        section("promise 2");
        LieOfTwo x = new LieOfTwo();
        for (int i = 1; i <= 80; i++) {
            due("feed", x.feed(0x20202020, 0x20202020, 0x20202020, 0x20202020, 0x20202020), 20 * i);
        }
        due("feed beyond 1600", x.feed(0x20202020, 0, 0, 0, 0), -1);
        due("about(7)", x.about(7), 1600);
        due("town of 1600 blanks", x.town(), 1);
        // each of the bytes at its place: "fact abcdefgh;fact b"
        due("feed", x.feed(0x66616374, 0x20616263, 0x64656667, 0x683b6661, 0x63742062), 20);
        due("feed", x.feed(0x3b808182, 0, 0, 0, 0), 40);
        due("end", x.end(21), 21);
        due("town", x.town(), 4);
        x.feed(0x20202020, 0x20202020, 0x20202020, 0x20202020, 0x202020ff);
        due("a byte above 127", x.town(), -1);
        due("its place", x.fault(1), 19);
        section("promise 3");
        due("end(0)", x.end(0), 0);
        due("end(1)", x.end(1), -1);
        due("end(-1)", x.end(-1), -1);
        x.feed(1, 2, 3, 4, 5);
        due("end(21)", x.end(21), -1);
        due("end(least)", x.end(Integer.MIN_VALUE), -1);
        due("end(20)", x.end(20), 20);
        due("end(7)", x.end(7), 7);
        due("end(8)", x.end(8), -1);
        due("about(7)", x.about(7), 7);
        x.end(0);
        for (int i = 0; i < 79; i++) {
            x.feed(0, 0, 0, 0, 0);
        }
        x.end(1561);
        due("feed of 20 into 1561", x.feed(0, 0, 0, 0, 0), 1581);
        due("feed of 20 into 1581", x.feed(0, 0, 0, 0, 0), -1);
        due("the tape as it was", x.about(7), 1581);
    }

    private static void towns() {
        section("promise 4");
        LieOfTwo x = of(HOUSE);
        due("about(9)", x.about(9), 4);
        x.later(5);
        x.say(1, 0, false, false);
        x.image(1);
        due("a faulty one", town(x, "fact"), -1);
        due("its SAYINGS stay", x.about(5), 1);
        due("its BOX stays", x.back(1), 1);
        due("a good one", town(x, "fact a;"), 2);
        due("SAYINGS", x.about(5), 0);
        due("BOX", x.back(1), -1);
        due("TIME", x.about(6), 5);
        due("empty", x.town(), 1);
        due("FACTS", x.about(0), 0);
        due("none at all", town(x, "fact a; always a; always not a;"), 0);
        due("about(9)", x.about(9), 0);
        due("left", x.left(0), 0);
        due("rest", x.rest(0, 0), -1);
        due("plain", x.plain(0), -1);
        due("always by a ROW", town(x, "fact a; fact b; row r a and not b; always r;"), 1);
        due("its WORLD", x.world(0, 0), 1);
        String all = "fact a;fact b;fact c;fact d;fact e;fact f;fact g;fact h;";
        due("eight FACTS", town(x, all), 256);
        due("one of 256", town(x, all + "always a and b and c and d and e and f and g and h;"), 1);
        due("its number", x.world(0, 0), 255);
        due("seven FACTS", town(x, "fact a;fact b;fact c;fact d;fact e;fact f;fact g;always g;always not a;"), 32);
        due("the first", x.world(0, 0), 64);
        due("the last", x.world(31, 0), 126);
        due("if", town(x, "fact a; fact b; always b if a;"), 3);
        due("or and not", town(x, "fact a; fact b; fact c; always not a or b and c;"), 5);
    }

    private static void tokenFaults() {
        section("promise 5, fault 1");
        LieOfTwo x = new LieOfTwo();
        due("ahead of any", x.fault(0), 0);
        due("ahead of any", x.fault(1), -1);
        due("another what", x.fault(2), -1);
        due("another what", x.fault(-1), -1);
        faulty("fact A;", 1, 5);
        faulty("fact a,", 1, 6);
        faulty("\tfact a;", 1, 0);
        faulty("fact abcdefghi;", 1, 5);
        good("fact abcdefgh;");
        good("fact zzyzx; fact z; row zz z and zzyzx;");
        faulty("fact `;", 1, 5);
        faulty("fact {;", 1, 5);
        faulty("fact a/;", 1, 6);
        faulty("fact a:;", 1, 6);
        faulty("person p cost 12345;", 1, 14);
        faulty("person p cost 1a;", 1, 14);
        faulty("person p cost 12knows", 1, 14);
        good("person p cost1;");
        good("person\np\n\ncost0099;law(voices>1)or(apart);");
        faulty("12345", 1, 0);
        faulty("7x", 1, 0);
        faulty("law 9999 a", 2, 9);
        good("law 9999;");
        town(x, "fact");
        due("fault", x.fault(0), 2);
        due("another what of a faulty one", x.fault(2), -1);
        town(x, "fact a;");
        due("without", x.fault(0), 0);
        due("without", x.fault(1), -1);
    }

    private static void standingFaults() {
        section("promise 5, fault 2");
        faulty("fact", 2, 4);
        faulty("fact  \n", 2, 7);
        faulty("fact a", 2, 6);
        faulty("fact a b;", 2, 7);
        faulty("fact 7;", 2, 5);
        faulty("fact not;", 2, 5);
        faulty("a;", 2, 0);
        faulty(";", 2, 0);
        faulty("7;", 2, 0);
        faulty("price;", 2, 0);
        faulty("fact a;;", 2, 7);
        faulty("person p;", 2, 8);
        faulty("person p cost;", 2, 13);
        faulty("person p cost p;", 2, 14);
        faulty("fact a; person p cost 1 knows;", 2, 29);
        faulty("fact a; person p cost 1 knows a knows a;", 2, 32);
        faulty("person p cost 1 1;", 2, 16);
        faulty("fact a; row r;", 2, 13);
        faulty("fact a; row r a if a if a;", 2, 21);
        faulty("fact a; row r a a;", 2, 16);
        faulty("fact a; row r a and;", 2, 19);
        faulty("fact a; row r (a;", 2, 16);
        faulty("fact a; row r a);", 2, 15);
        faulty("fact a; row r ();", 2, 15);
        faulty("fact a; row r not;", 2, 17);
        faulty("fact a; row r a or or a;", 2, 19);
        faulty("fact a; row r holds;", 2, 19);
        faulty("fact a; person p cost 1; row r holds (a);", 2, 37);
        faulty("fact a; person p cost 1; row r holds p;", 2, 38);
        faulty("fact a; person p cost 1; always holds p a;", 2, 32);
        faulty("fact a; person p cost 1; always not thinks p a;", 2, 36);
        faulty("law;", 2, 3);
        faulty("law a;", 2, 4);
        faulty("law 1 < 2 < 3;", 2, 10);
        faulty("law 1 +;", 2, 7);
        faulty("law 1 and 1;", 2, 6);
        faulty("law not 1;", 2, 4);
        faulty("law (1;", 2, 6);
        faulty("law 1; law 1;", 2, 7);
        faulty("person p cost 1; person q cost 1; tie p q 5;", 2, 42);
        faulty("person p cost 1; tie p;", 2, 22);
        faulty("fact a; row r a; person p cost 1; wish p r price 5;", 2, 43);
        for (String kept : ("fact person cost knows row always tie price wish worth law if or and not holds thinks"
            + " voices apart tied").split(" ")) {
            faulty("fact " + kept + ";", 2, 5);
        }
        for (String free : "town line e alt both one unit f any sum part n name carried".split(" ")) {
            good("fact " + free + ";");
        }
    }

    private static void tooManyFaults() {
        section("promise 5, too many");
        String facts = "fact a;fact b;fact c;fact d;fact e;fact f;fact g;fact h;";
        good(facts);
        faulty(facts + "fact a;", 2, facts.length());
        String persons = "person a cost 0;person b cost 0;person c cost 0;person d cost 0;"
            + "person e cost 0;person f cost 0;person g cost 0;person h cost 0;";
        good(persons);
        faulty(persons + "person i cost 0;", 2, persons.length());
        StringBuilder rows = new StringBuilder("fact x;");
        for (char c = 'a'; c < 'm'; c++) {
            rows.append("row r").append(c).append(" x;");
        }
        good(rows.toString());
        faulty(rows + "row rm x;", 2, rows.length());
        String always = "fact a;" + times("always a;", 4);
        good(always);
        faulty(always + "always a;", 2, always.length());
        String ties = persons + "tie a b price 1;tie a c price 1;tie a d price 1;tie a e price 1;tie a f price 1;"
            + "tie a g price 1;tie a h price 1;tie b c price 1;tie b d price 1;tie b e price 1;tie b f price 1;";
        good(ties + "tie b g price 1;");
        ties += "tie b g price 1;";
        faulty(ties + "tie b h price 1;", 2, ties.length());
        StringBuilder wishes = new StringBuilder(rows).append("person p cost 0;person q cost 0;");
        for (char c = 'a'; c < 'm'; c++) {
            wishes.append("wish p r").append(c).append(" worth 1;");
        }
        good(wishes.toString());
        faulty(wishes + "wish q ra worth 1;", 2, wishes.length());
    }

    private static void nameFaults() {
        section("promise 5, faults 3 to 5");
        faulty("fact a; fact a;", 3, 13);
        faulty("fact a; row a a;", 3, 12);
        faulty("fact a; row r a; fact r;", 3, 22);
        faulty("fact a; row r a; row r a;", 3, 21);
        faulty("person p cost 0; person p cost 0;", 3, 24);
        good("fact a; person a cost 0; row r holds a a;");
        faulty("fact a; fact b; person p cost 0 knows a b a;", 3, 42);
        faulty("person p cost 0; tie p p price 1;", 3, 23);
        faulty("person p cost 0; person q cost 0; tie p q price 1; tie q p price 1;", 3, 57);
        faulty("person p cost 0; person q cost 0; tie p q price 1; tie p q price 1;", 3, 57);
        faulty("fact a; row r a; person p cost 0; wish p r worth 1; wish p r worth 2;", 3, 59);
        good("fact a; row r a; person p cost 0; person q cost 0; wish p r worth 0; wish q r worth 99;");
        faulty("person p cost 100;", 4, 14);
        good("person p cost 99;");
        faulty("person p cost 0; person q cost 0; tie p q price 100;", 4, 48);
        faulty("fact a; row r a; person p cost 0; wish p r worth 9999;", 4, 49);
        faulty("fact a; row r b;", 5, 14);
        faulty("fact a; row r r;", 5, 14);
        faulty("fact a; row r p; person p cost 0;", 5, 14);
        faulty("row r a; fact a;", 5, 6);
        faulty("person p cost 0 knows a; fact a;", 5, 22);
        faulty("fact a; row r a; person p cost 0 knows r;", 5, 39);
        faulty("fact a; row r holds p a; person p cost 0;", 5, 20);
        faulty("fact a; row r holds a a;", 5, 20);
        faulty("person p cost 0; tie p q price 1; person q cost 0;", 5, 23);
        faulty("person p cost 0; tie q p price 1;", 5, 21);
        faulty("fact a; row r a; person p cost 0; wish p a worth 1;", 5, 41);
        faulty("fact a; row r a; wish p r worth 1;", 5, 22);
        faulty("fact a; person p cost 0; row r thinks p a; always r;", 5, 50);
        faulty("fact a; person p cost 0; row r holds p a; row s not r; always s;", 5, 62);
        good("fact a; person p cost 0; row r a; row s not r; always s or r;");
    }

    private static void depthAndUnits() {
        section("promise 5, units");
        String head = "fact a;person p cost 0;row r ";
        good(head + times("(", 7) + "a" + times(")", 7) + ";");
        faulty(head + times("(", 8) + "a" + times(")", 8) + ";", 2, head.length() + 7);
        good(head + times("not ", 7) + "a;");
        faulty(head + times("not ", 8) + "a;", 2, head.length() + 28);
        faulty(head + times("holds p ", 8) + "a;", 2, head.length() + 56);
        faulty(head + times("thinks p ", 7) + "(a);", 2, head.length() + 63);
        faulty(head + times("not ( ", 3) + "holds p not a" + times(")", 3) + ";", 2, head.length() + 26);
        good(head + times("not ( ", 3) + "holds p a" + times(")", 3) + ";");
        good(head + times("(", 7) + "a or a if a and a" + times(")", 7) + "and not not not (not a);");
        good("law " + times("(", 7) + "1" + times(")", 7) + ";");
        faulty("law " + times("(", 8) + "1" + times(")", 8) + ";", 2, 11);
        String eighty = "fact a;row r a" + times(" and a", 79);
        good(eighty + ";");
        faulty(eighty + " and a;", 2, eighty.length() + 5);
        faulty(eighty + " and (a);", 2, eighty.length() + 5);
        faulty(eighty + " and not b;", 2, eighty.length() + 9);
        faulty(eighty + ";law 1;", 2, eighty.length() + 5);
        String law = "law (1)" + times("+ 1", 78);
        good(law + ";");
        faulty(law + "-1;", 2, law.length() + 1);
        LieOfTwo x = of("fact a;fact b;fact c;fact d;row r " + times("a if b or c and (", 7) + "a if b or c and d"
            + times(")", 7) + ";");
        due("all that can wait", x.is(0, 4), 0);
        due("all that can wait", x.is(0, 12), 1);
        due("all that can wait", x.is(0, 13), 1);
        due("all that can wait", x.is(0, 14), 0);
        x = of("person p cost 0;law " + times("0 or 0 = 0 + (", 7) + "0 or 0 = 0 + apart" + times(")", 7) + ";");
        due("all that can wait", x.lies(1, true, true), 1);
        due("all that can wait", x.lies(1, false, true), 0);
        String nots = "fact a;fact b;row r " + times(times("not ", 7) + "a or ", 46) + times("not ", 6) + "b;";
        for (int i = 0; i < 5; i++) {
            due("WORLDS of a long text", town(x, nots), 4);
            due("a long one", x.is(0, 0), 1);
            due("a long one", x.is(0, 1), 0);
            due("a long one", x.is(0, 3), 1);
        }
        section("promise 29, units");
        due("units", of(eighty + ";").about(8), 80);
        due("units of a law", of("law (voices + 1) > (2);").about(8), 5);
        due("units of an e", of("fact a; person p cost 0; row r not (holds p a) if (a or a); always a;").about(8), 6);
    }

    private static void rowsInWorlds() {
        section("promise 6");
        LieOfTwo x = of(HOUSE);
        int[][] so = {{0, 1, 0, 1}, {1, 1, 0, 0}, {0, 0, 0, 1}, {0, 1, 0, 1}};
        for (int row = 0; row < 4; row++) {
            for (int world = 0; world < 4; world++) {
                due("is(" + row + "," + world + ")", x.is(row, world), so[row][world]);
            }
        }
        due("no ROW", x.is(4, 0), -1);
        due("no ROW", x.is(-1, 0), -1);
        due("no WORLD", x.is(0, 4), -1);
        due("no WORLD", x.is(0, -1), -1);
        x = of("fact a; fact b; always a or b; person p cost 0 knows a; row r holds p b; row s b if a;"
            + "row t thinks p r; row u holds p not b; row v thinks p b and a; row w holds p (a or b);");
        due("none of BASE", x.is(0, 0), -1);
        int[][] more = {{0, 1, 0}, {0, 1, 1}, {0, 1, 0}, {0, 0, 0}, {1, 0, 1}, {1, 1, 1}};
        for (int row = 0; row < 6; row++) {
            for (int world = 1; world < 4; world++) {
                due("is(" + row + "," + world + ")", x.is(row, world), more[row][world - 1]);
            }
        }
        // the FACTS whose bits stand in other longs
        x = of("fact a;fact b;fact c;fact d;fact e;fact f;fact g;fact h;person p cost 0 knows g;person q cost 0 knows h a;"
            + "row r g and not h;row s holds p g;row t thinks q g;row u holds q (h or g) if h; always g or h or a;");
        due("is", x.is(0, 64), 1);
        due("is", x.is(0, 192), 0);
        due("is", x.is(1, 65), 1);
        due("is", x.is(1, 129), 0);
        due("is", x.is(2, 1), 1);
        due("is", x.is(2, 128), 1);
        due("is", x.is(3, 0), -1);
        due("is", x.is(3, 255), 1);
        due("a WORLD beyond", x.is(0, 256), -1);
        // always that are told behind bind ahead
        x = of("fact a; fact b; person p cost 0 knows a; row r holds p b; always b if a;");
        due("is", x.is(0, 3), 1);
        due("is", x.is(0, 2), 0);
        due("is", x.is(0, 1), -1);
    }

    private static void answers() {
        section("promise 7");
        LieOfTwo x = of(HOUSE);
        int[][] wet = {{0, 1, 0, 1}, {2, 2, 2, 2}, {2, 2, 2, 2}};
        int[][] two = {{0, 2, 0, 2}, {0, 0, 2, 2}, {2, 2, 2, 2}};
        for (int person = 0; person < 3; person++) {
            for (int world = 0; world < 4; world++) {
                due("answers wet", x.answers(person, 0, world), wet[person][world]);
                due("answers two", x.answers(person, 2, world), two[person][world]);
            }
        }
        due("no PERSON", x.answers(3, 0, 0), -1);
        due("no PERSON", x.answers(-1, 0, 0), -1);
        due("no ROW", x.answers(0, 4, 0), -1);
        due("no WORLD", x.answers(0, 0, 4), -1);
        due("none of BASE", of("fact a; always a; person p cost 0; row r a;").answers(0, 0, 0), -1);
        due("by always alone", of("fact a; always a; person p cost 0; row r a;").answers(0, 0, 1), 1);
    }

    private static void law(String law, int persons, boolean apart, boolean surely, int want) {
        LieOfTwo x = of("person a cost 0;person b cost 0;person c cost 0;tie c a price 0;" + law);
        due("lies of " + law + " by " + persons, x.lies(persons, apart, surely), want);
    }

    private static void laws() {
        section("promise 8");
        law("", 1, false, true, 0);
        law("", 3, true, false, 1);
        law("", 7, false, true, 1);
        law("law 0;", 7, false, true, 0);
        law("law voices - 1;", 2, false, true, 0);
        law("law voices - 2;", 2, false, true, 1);
        law("law voices < 2;", 2, false, true, 1);
        law("law voices < 2;", 6, false, true, 0);
        law("law voices = 3;", 7, false, true, 1);
        law("law tied;", 5, false, true, 1);
        law("law tied;", 3, false, true, 0);
        law("law tied;", 7, false, true, 1);
        law("law tied;", 4, false, true, 0);
        law("law apart;", 1, true, true, 1);
        law("law apart;", 1, false, true, 0);
        law("law thinks;", 1, false, true, 0);
        law("law thinks;", 1, false, false, 1);
        law("law (voices > 1) + (apart or tied) = 2;", 5, false, true, 1);
        law("law (voices > 1) + (apart or tied) = 2;", 3, false, true, 0);
        law("law voices = 2 or 0;", 3, false, true, 1);
        law("law (5 or 0) = 1;", 1, false, true, 1);
        law("law 3 - 1 - 1 = 1;", 1, false, true, 1);
        law("law 1 - 2 < 0;", 1, false, true, 1);
        law("law (3 < 4) = 1;", 1, false, true, 1);
        law("law 0 > 9999 or 0 or 7;", 1, false, true, 1);
        law("law 1;", 0, false, true, -1);
        law("law 1;", 8, false, true, -1);
        law("law 1;", -1, false, true, -1);
        law("law 1;", Integer.MIN_VALUE, false, true, -1);
        LieOfTwo x = of("person a cost 0;person b cost 0;person c cost 0;person d cost 0;person e cost 0;"
            + "person f cost 0;person g cost 0;person h cost 0;law voices = 8;");
        due("eight", x.lies(255, false, true), 1);
        due("seven", x.lies(127, false, true), 0);
        due("nine", x.lies(256, false, true), -1);
    }

    private static void may() {
        section("promise 9");
        LieOfTwo x = of(HOUSE + "law voices = 3;");
        due("surely", x.may(1, 0, false, true, 1), 1);
        due("surely", x.may(1, 0, false, true, 0), 0);
        due("surely by two, one unsure", x.may(3, 0, false, true, 1), 0);
        due("thinks by two", x.may(3, 0, false, false, 1), 1);
        due("thinks by two, one sure that not", x.may(3, 0, false, false, 0), 0);
        due("by liars", x.may(7, 0, false, true, 0), 1);
        due("no PERSONS", x.may(0, 0, false, true, 0), -1);
        due("no PERSONS", x.may(8, 0, false, true, 0), -1);
        due("no ROW", x.may(1, 4, false, true, 0), -1);
        due("no WORLD", x.may(1, 0, false, true, 4), -1);
        due("no WORLD by liars", x.may(7, 0, false, true, -1), -1);
        x = of("fact a; always a; person p cost 0; row r a; law 1;");
        due("none of BASE", x.may(1, 0, false, true, 0), -1);
        due("of BASE", x.may(1, 0, false, true, 1), 1);
    }

    private static void sayings() {
        section("promise 10");
        LieOfTwo x = of(HOUSE);
        due("no PERSONS", x.say(0, 0, false, true), -1);
        due("no PERSONS", x.say(8, 0, false, true), -1);
        due("no ROW", x.say(1, 4, false, true), -1);
        due("no ROW", x.say(1, -1, false, true), -1);
        due("doing nothing", x.about(5), 0);
        for (int i = 0; i < 40; i++) {
            due("say", x.say(2, 1, true, i % 2 == 0), i);
        }
        due("a 41st", x.say(2, 1, true, true), -1);
        due("SAYINGS", x.about(5), 40);
        section("promise 11");
        due("untell", x.untell(39), true);
        due("again", x.untell(39), false);
        due("none such", x.untell(40), false);
        due("none such", x.untell(-1), false);
        due("still 40", x.say(2, 1, true, true), -1);
    }

    private static void times() {
        section("promise 12");
        LieOfTwo x = of(HOUSE);
        due("later(0)", x.later(0), 0);
        due("later(3)", x.later(3), 3);
        due("later(1000)", x.later(1000), 1003);
        due("later(1001)", x.later(1001), -1);
        due("later(-1)", x.later(-1), -1);
        due("about(6)", x.about(6), 1003);
        for (int i = 0; i < 98; i++) {
            x.later(1000);
        }
        due("later", x.later(998), -1);
        due("later", x.later(997), 100000);
        due("later", x.later(1), -1);
        due("later", x.later(0), 100000);
        section("two times");
        x = of("fact a; person p cost 0 knows a; row r a; law 0;");
        x.later(5);
        due("say", x.say(1, 0, false, true), 0);
        due("ahead of it", x.left(4), 2);
        due("at it", x.left(5), 1);
        due("far ahead", x.left(Integer.MIN_VALUE), 2);
        due("far behind", x.left(Integer.MAX_VALUE), 1);
        x.later(5);
        due("untell", x.untell(0), true);
        due("ahead of it", x.left(9), 1);
        due("at it", x.left(10), 2);
        due("far behind", x.left(Integer.MAX_VALUE), 2);
        due("say", x.say(1, 0, false, true), 1);
        due("untold at once", x.untell(1), true);
        due("never counts", x.left(10), 2);
        due("never counts", x.left(9), 1);
    }

    private static void leftAndWorld() {
        section("promises 13, 14");
        LieOfTwo x = of("fact a; fact b; fact c; person p cost 0 knows a; person q cost 0 knows b; row ra a; row rb b;"
            + "row rc c; always a or b; law 0;");
        due("left", x.left(0), 6);
        int[] base = {1, 2, 3, 5, 6, 7};
        for (int i = 0; i < 6; i++) {
            due("world", x.world(i, 0), base[i]);
        }
        due("world", x.world(6, 0), -1);
        due("world", x.world(-1, 0), -1);
        x.say(1, 0, false, true);
        due("left", x.left(0), 4);
        due("left ahead", x.left(-1), 6);
        due("world", x.world(1, 0), 3);
        x.say(3, 1, false, false);
        due("thinks by one who knows", x.left(0), 2);
        due("world", x.world(0, 0), 3);
        due("world", x.world(1, 0), 7);
        x.say(1, 2, false, true);
        due("surely what one can't know", x.left(0), 0);
        due("world", x.world(0, 0), -1);
    }

    private static void sure() {
        section("promise 15");
        LieOfTwo x = of("fact a; fact b; person p cost 0 knows a; row ra a; row nb not b; row na not a; law 0;");
        due("in some", x.sure(0, 0), -2);
        x.say(1, 0, false, true);
        due("sure", x.sure(0, 0), 1);
        due("in none", x.sure(2, 0), 0);
        due("in some", x.sure(1, 0), -2);
        due("ahead", x.sure(0, -1), -2);
        due("no ROW", x.sure(3, 0), -1);
        due("no ROW", x.sure(-1, 0), -1);
        x.say(1, 2, false, true);
        due("none LEFT", x.sure(0, 0), -1);
    }

    private static void proof() {
        section("promise 16");
        LieOfTwo x = of("fact a; fact b; person p cost 0 knows a; person q cost 0 knows b; row ra a; row rb b;"
            + "row rab a and b; row any a or not a; row na not a; law 0;");
        due("by none", x.proof(3, 0), 0);
        due("not SURE", x.proof(0, 0), -1);
        x.say(1, 3, false, true);
        x.say(1, 0, false, true);
        x.say(2, 1, false, true);
        x.say(1, 0, true, true);
        due("the least of like ones", x.proof(0, 0), 2);
        due("two", x.proof(2, 0), 6);
        due("one", x.proof(1, 0), 4);
        due("no ROW", x.proof(5, 0), -1);
        due("in none", x.proof(4, 0), -1);
        x.later(1);
        x.untell(0);
        due("bits of those that count", x.proof(0, 1), 1);
        due("bits of those that count", x.proof(2, 1), 3);
        due("as known ahead", x.proof(2, 0), 6);
        for (int i = 0; i < 7; i++) {
            x.say(1, 3, false, true);
        }
        due("ten", x.proof(2, 1), 3);
        x.say(1, 3, false, true);
        due("eleven", x.proof(2, 1), -2);
        due("eleven, not SURE", x.proof(4, 1), -1);
        x.say(1, 4, false, true);
        due("none LEFT", x.proof(3, 1), -1);
        // fewer SAYINGS go ahead of a less number
        x = of("fact a; fact b; person p cost 0 knows a; person q cost 0 knows b; person r cost 0 knows a b;"
            + "row ra a; row rb b; row rab a and b; law 0;");
        x.say(1, 0, false, true);
        x.say(2, 1, false, true);
        x.say(4, 2, false, true);
        due("one for two", x.proof(2, 0), 4);
    }

    private static void judge() {
        section("promise 17");
        LieOfTwo x = of("fact a; fact b; person p cost 0 knows a; person q cost 0 knows b; row ra a; row rb b; always a or b;");
        due("all could", x.judge(1, 0), -1);
        x.say(3, 1, false, true);
        x.say(2, 1, false, true);
        x.later(1);
        x.say(1, 0, false, false);
        due("the first", x.judge(1, 1), 1);
        due("a later", x.judge(2, 1), 2);
        due("as known ahead", x.judge(2, 0), -1);
        due("all", x.judge(3, 1), -1);
        due("none of BASE", x.judge(0, 0), -2);
        due("none of BASE", x.judge(4, 0), -2);
        due("none of BASE", x.judge(-1, 0), -2);
        x.untell(1);
        due("as number", x.judge(2, 1), 2);
    }

    private static void next() {
        section("promise 18");
        LieOfTwo x = of("fact a; fact b; person p cost 7 knows a; person q cost 3 knows b; person s cost 3 knows b;"
            + "row rab a and b; row ra a; row rb b; law 0;");
        // p of ra: 2 and 2; q of rb likewise and cheaper; of rab no better than 2
        due("the PERSON", x.next(0, 0), 1);
        due("the ROW", x.next(1, 0), 0);
        due("the number", x.next(2, 0), 2);
        due("another what", x.next(3, 0), -1);
        due("another what", x.next(-1, 0), -1);
        x.say(2, 2, false, true);
        due("the PERSON", x.next(0, 0), 0);
        due("the ROW", x.next(1, 0), 0);
        due("the number", x.next(2, 0), 1);
        due("as known ahead", x.next(0, -1), 1);
        x.say(4, 2, false, true);
        x.say(1, 2, false, true);
        due("none LEFT", x.next(2, 0), -1);
        due("without PERSONS", of("fact a; row r a;").next(2, 0), -1);
        due("without ROWS", of("fact a; person p cost 0;").next(2, 0), -1);
        x = of("fact a; person p cost 9; row r a;");
        due("one who knows nothing", x.next(0, 0), 0);
        due("the number", x.next(2, 0), 2);
    }

    private static void askings() {
        section("promise 19");
        LieOfTwo x = of("fact a; fact b; fact c; person p cost 0 knows a; person q cost 0 knows b; row ra a; row rb b;"
            + "row rx (a or b) and not (a and b); row rc c; row rt a or not a; law 0;");
        due("none is needed", x.askings(4, 0), 0);
        due("one", x.askings(0, 0), 1);
        due("two", x.askings(2, 0), 2);
        due("none are enough", x.askings(3, 0), -1);
        due("no ROW", x.askings(5, 0), -2);
        due("no ROW", x.askings(-1, 0), -2);
        x.say(1, 0, false, true);
        due("one", x.askings(2, 0), 1);
        due("none is needed", x.askings(0, 0), 0);
        due("as known ahead", x.askings(2, -1), 2);
        x.say(1, 1, false, true);
        due("none LEFT", x.askings(0, 0), -2);
        due("nobody to ask", of("fact a; row r a;").askings(0, 0), -1);
        due("nobody to ask", of("fact a; always a; row r a;").askings(0, 0), 0);
        // whom to ask behind depends on the answer ahead
        x = of("fact a; fact b; fact c; person p cost 0 knows a; person q cost 0 knows b; person s cost 0 knows c;"
            + "row ra a; row rb b; row rc c; row mux (b if a) and (c if not a);");
        due("by the answer", x.askings(3, 0), 2);
        x = of("fact a; fact b; fact c; person p cost 0 knows a; person q cost 0 knows b; person s cost 0 knows c;"
            + "row ra a; row rb b; row rc c; row all a and b and c;");
        due("three would be", x.askings(3, 0), -1);
    }

    private static void lastsAndWith() {
        section("promise 20");
        LieOfTwo x = of(HOUSE);
        due("lasts", x.lasts(0, 1, 0, 0), 1);
        due("lasts", x.lasts(1, 0, 0, 0), 1);
        due("lasts", x.lasts(1, 2, 0, 0), 0);
        due("lasts", x.lasts(0, 2, 1, 2), 0);
        due("so", x.lasts(0, 1, 0, 1), -1);
        due("one PERSON", x.lasts(1, 1, 0, 0), -1);
        due("no PERSON", x.lasts(0, 3, 0, 0), -1);
        due("no PERSON", x.lasts(-1, 1, 0, 0), -1);
        due("no ROW", x.lasts(0, 1, 4, 0), -1);
        due("no WORLD", x.lasts(0, 1, 0, 4), -1);
        section("promise 21");
        due("with", x.with(0, 0, 0), 1);
        due("with", x.with(2, 0, 0), 1);
        due("the better LASTS", x.with(1, 0, 0), 0);
        due("so", x.with(1, 0, 1), -1);
        due("no PERSON", x.with(3, 0, 0), -1);
        due("no ROW", x.with(0, -1, 0), -1);
        due("no WORLD", x.with(0, 0, -1), -1);
        String four = "fact a; person p cost 0; person q cost 0; person r cost 0; person s cost 0 knows a; row ra a;";
        x = of(four + "tie q p price 4; tie p r price 3; tie s p price 14;");
        due("a price of 3", x.with(0, 0, 0), 2);
        due("tied to one", x.with(1, 0, 0), 0);
        x = of(four + "tie q p price 3; tie p r price 3; tie s p price 12;");
        due("one who knows, worth ten", x.with(0, 0, 0), 3);
        x = of(four + "tie s p price 14; tie p r price 4; tie q p price 4;");
        due("the first PERSON", x.with(0, 0, 0), 1);
        due("tied to none", of(four).with(0, 0, 0), -1);
        x = of(four + "tie s p price 99;");
        due("below 0", x.with(0, 0, 0), 3);
    }

    private static void rest() {
        section("promise 22");
        LieOfTwo x = of(HOUSE);
        due("GAIN", x.rest(0, 0), 6);
        due("ties", x.rest(0, 1), 1);
        due("GAIN where it is so", x.rest(1, 0), 0);
        due("ties where it is so", x.rest(1, 1), 0);
        due("another what", x.rest(0, 2), -1);
        due("another what", x.rest(0, -1), -1);
        due("no WORLD", x.rest(4, 0), -1);
        due("none of BASE", of("fact a; always a;").rest(0, 0), -1);
        String four = "fact a; fact b; person p cost 0; person q cost 0; person r cost 0; person s cost 0; row ra a; row rb b;";
        x = of(four + "tie p q price 0; tie q r price 0; tie r s price 0; wish p ra worth 3; wish q ra worth 4;"
            + "wish r ra worth 5; wish s ra worth 1;");
        due("two of three", x.rest(0, 0), 13);
        due("two of three", x.rest(0, 1), 5);
        x = of(four + "tie p q price 0; tie q r price 0; tie r s price 4; wish p ra worth 1; wish q ra worth 8;"
            + "wish r ra worth 5; wish s ra worth 1;");
        due("the middle", x.rest(0, 0), 13);
        due("the middle", x.rest(0, 1), 2);
        x = of(four + "tie p q price 1; tie r s price 1; tie p r price 1; tie q s price 1; wish p ra worth 2; wish q ra worth 2;"
            + "wish r ra worth 2; wish s ra worth 2;");
        due("the least of like ones", x.rest(0, 0), 4);
        due("the least of like ones", x.rest(0, 1), 3);
        x = of(four + "tie p q price 1; wish p ra worth 2; wish q ra worth 0; wish q rb worth 9; wish p rb worth 0;");
        due("the most of one ROW", x.rest(0, 0), 7);
        due("but not so", x.rest(2, 0), 0);
        due("a GAIN of 0 is left out", x.rest(2, 1), 0);
        due("the other ROW", x.rest(1, 0), 7);
        x = of(four + "tie p q price 0; wish p ra worth 9; wish q rb worth 9;");
        due("not both wish it", x.rest(0, 0), 0);
    }

    private static void truth() {
        section("promise 23");
        LieOfTwo x = of("fact a; fact b; row rab a and b; row ra a; row none a and not a; person p cost 0 knows a b; law 0;");
        due("upper", x.truth(0, 10, 2, 0, 0), 5);
        due("lower", x.truth(0, 10, 2, 1, 0), 8);
        due("in lowest terms", x.truth(1, 4, 4, 0, 0), 1);
        due("in lowest terms", x.truth(1, 4, 4, 1, 0), 2);
        due("0", x.truth(1, 0, 4, 0, 0), 0);
        due("0 of 1", x.truth(1, 0, 4, 1, 0), 1);
        due("1", x.truth(1, 3, 0, 0, 0), 1);
        due("1 of 1", x.truth(1, 3, 0, 1, 0), 1);
        due("never so", x.truth(2, 3, 7, 0, 0), 0);
        due("not at all", x.truth(2, 3, 0, 0, 0), -1);
        due("not at all", x.truth(1, 0, 0, 1, 0), -1);
        due("c", x.truth(1, 11, 1, 0, 0), -1);
        due("c", x.truth(1, -1, 1, 0, 0), -1);
        due("d", x.truth(1, 1, 11, 0, 0), -1);
        due("d", x.truth(1, 1, -1, 0, 0), -1);
        due("part", x.truth(1, 1, 1, 2, 0), -1);
        due("part", x.truth(1, 1, 1, -1, 0), -1);
        due("no ROW", x.truth(3, 1, 1, 0, 0), -1);
        x.later(1);
        x.say(1, 1, false, true);
        due("of those LEFT", x.truth(0, 10, 2, 1, 1), 6);
        due("as known ahead", x.truth(0, 10, 2, 1, 0), 8);
        x.say(1, 2, false, true);
        due("none LEFT", x.truth(0, 10, 2, 1, 1), -1);
    }

    private static final String FIVE = "fact a; fact b; fact c; person p cost 0 knows a b c; person q cost 0; person r cost 0;"
        + "person s cost 0; person t cost 0; row ra a; row rb b; row rc c; row no a and not a;";

    private static void leagues() {
        section("promise 24");
        LieOfTwo x = of(FIVE);
        due("none needed", x.leagues(0, 0), 0);
        x.say(3, 0, false, true);
        due("not so", x.leagues(0, 0), 1);
        due("so", x.leagues(1, 0), 0);
        x.say(3, 0, false, false);
        x.say(12, 3, false, false);
        due("thinking ones don't matter", x.leagues(0, 0), 1);
        x.say(7, 0, false, true);
        due("the same pair", x.leagues(0, 0), 1);
        x.later(1);
        x.say(14, 1, true, true);
        due("another pair", x.leagues(0, 1), 2);
        due("as known ahead", x.leagues(0, 0), 1);
        due("where it is so", x.leagues(2, 1), 1);
        x.say(5, 2, true, true);
        due("one in two pairs", x.leagues(0, 1), -1);
        due("where it is so", x.leagues(4, 1), 2);
        due("no WORLD", x.leagues(8, 1), -2);
        due("no WORLD", x.leagues(-1, 1), -2);
        due("none of BASE", of("fact a; always a;").leagues(0, 0), -2);
        x = of(FIVE + "law 1;");
        x.say(1, 3, false, true);
        due("by one", x.leagues(0, 0), 0);
        x.say(31, 3, false, true);
        x.say(30, 3, false, true);
        x.say(14, 3, false, true);
        due("one pair in all", x.leagues(0, 0), 1);
        x.say(24, 3, false, true);
        due("two", x.leagues(0, 0), 2);
        // three pairs of which no two meet would need six
        x.say(3, 3, false, true);
        due("two pairs, and one of 2, 3, 4 is left", x.leagues(0, 0), -1);
        LieOfTwo y = of("fact a; row no a and not a;person a cost 0;person b cost 0;person c cost 0;person d cost 0;person e cost 0;"
            + "person f cost 0;person g cost 0;person h cost 0;");
        y.say(3, 0, false, true);
        y.say(12, 0, false, true);
        y.say(48, 0, false, true);
        y.say(192, 0, false, true);
        due("four", y.leagues(0, 0), 4);
        y.say(255, 0, false, true);
        due("four still", y.leagues(1, 0), 4);
        y.say(129, 0, false, true);
        due("none", y.leagues(0, 0), -1);
    }

    private static void plain() {
        section("promise 25");
        LieOfTwo x = of(FIVE);
        due("the first", x.plain(0), 0);
        x.say(3, 1, false, true);
        due("where it is so", x.plain(0), 2);
        x.later(1);
        x.say(12, 0, false, true);
        x.say(12, 3, false, true);
        due("the first of like ones", x.plain(1), 2);
        due("as known ahead", x.plain(0), 2);
        due("its pairs", x.leagues(2, 1), 1);
        due("those of the first WORLD", x.leagues(0, 1), 2);
        x.say(9, 3, false, true);
        due("there is none such", x.plain(1), -1);
        x = of("fact a; person p cost 0 knows a; row ra a; row na not a; law 0;");
        x.say(1, 0, false, true);
        due("LEFT", x.plain(0), 1);
        x.say(1, 1, false, true);
        due("none LEFT", x.plain(0), -1);
    }

    private static void vote() {
        section("promise 26");
        LieOfTwo x = of("fact a; person p cost 0 knows a; person q cost 0 knows a; person r cost 0; person s cost 0; row ra a;"
            + "tie p q price 0; tie p r price 0; tie r s price 0;");
        due("yes", x.vote(0, 1, 0), 2);
        due("no", x.vote(0, 1, 1), 0);
        due("carried", x.vote(0, 1, 2), 1);
        due("two who said yes say no", x.vote(0, 1, 3), 1);
        due("yes", x.vote(0, 0, 0), 0);
        due("no", x.vote(0, 0, 1), 2);
        due("not carried", x.vote(0, 0, 2), 0);
        due("two who said no say yes", x.vote(0, 0, 3), 1);
        due("another what", x.vote(0, 0, 4), -1);
        due("another what", x.vote(0, 0, -1), -1);
        due("no ROW", x.vote(1, 0, 0), -1);
        due("no WORLD", x.vote(0, 2, 0), -1);
        String many = "fact a; person p cost 0 knows a; person q cost 0 knows a; person r cost 0 knows a; person s cost 0;"
            + "person t cost 0; person u cost 0; row ra a; row un a or not a;";
        x = of(many + "tie s t price 0;");
        due("three to two stays", x.vote(0, 1, 3), -1);
        due("three against two", x.vote(0, 0, 3), -1);
        due("all hold it", x.vote(1, 0, 0), 6);
        due("all hold it", x.vote(1, 0, 3), -1);
        x = of(many + "tie s t price 0; tie u p price 0;");
        due("by one", x.vote(0, 1, 3), 1);
        due("by two", x.vote(0, 0, 3), 2);
        due("by two", x.vote(1, 0, 3), 2);
        x = of(many + "tie s t price 0; tie t p price 0;");
        due("one who is in two ties", x.vote(0, 0, 3), -1);
        x = of("fact a; person p cost 0; person q cost 0; row ra a; tie p q price 5;");
        due("none says anything", x.vote(0, 0, 2), 0);
        due("turned", x.vote(0, 0, 3), 1);
        x = of("fact a; person p cost 0 knows a; person q cost 0; row ra a; row na not a;");
        due("no ties", x.vote(0, 1, 3), -1);
        x = of("fact a; person p cost 0 knows a; person q cost 0 knows a; person r cost 0; person s cost 0; row ra a; tie r s price 0;");
        due("a draw is not carried", x.vote(0, 1, 3), 1);
        due("a draw is not carried", x.vote(0, 0, 3), -1);
    }

    private static void boxes() {
        section("promises 27, 28");
        LieOfTwo x = of("fact a; person p cost 0 knows a; row ra a; row na not a; law 0;");
        due("nothing kept", x.back(0), -1);
        due("no BOX", x.image(3), -1);
        due("no BOX", x.image(-1), -1);
        due("no BOX", x.back(3), -1);
        due("no BOX", x.back(-1), -1);
        due("empty", x.image(2), 0);
        x.say(1, 0, false, true);
        x.later(2);
        due("one", x.image(0), 1);
        x.untell(0);
        x.say(1, 1, false, true);
        due("two", x.image(1), 2);
        due("left", x.left(2), 1);
        due("world", x.world(0, 2), 0);
        x.later(1);
        due("back", x.back(0), 1);
        due("the TIME goes on", x.about(6), 3);
        due("as TOLD", x.world(0, 3), 1);
        due("not UNTOLD", x.untell(0), true);
        due("UNTOLD at 3", x.left(2), 1);
        due("UNTOLD at 3", x.left(3), 2);
        due("back again", x.back(0), 1);
        due("kept as it was", x.left(3), 1);
        due("back", x.back(1), 2);
        due("UNTOLD", x.untell(0), false);
        due("as UNTOLD", x.world(0, 3), 0);
        due("as known ahead", x.world(0, 1), 1);
        due("back to nothing", x.back(2), 0);
        due("none", x.left(3), 2);
        due("over", x.image(0), 0);
        due("over", x.back(0), 0);
        due("a fault", town(x, "fact"), -1);
        due("keeps them", x.back(1), 2);
        town(x, "");
        due("a town empties them", x.back(1), -1);
    }

    private static void about() {
        section("promise 29");
        LieOfTwo x = of(HOUSE);
        x.say(1, 0, false, true);
        x.say(1, 0, false, true);
        x.untell(0);
        x.later(7);
        x.feed(0, 0, 0, 0, 0);
        int[] due = {2, 3, 4, 2, 2, 2, 7, 20, 5, 4};
        for (int what = 0; what < 10; what++) {
            due("about(" + what + ")", x.about(what), due[what]);
        }
        due("another", x.about(10), -1);
        due("another", x.about(-1), -1);
    }
}
