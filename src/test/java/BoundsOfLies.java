/** The edges of askings, lies, leagues and votes: each test is named by the words of the document that it is about. */
public final class BoundsOfLies extends Checks {
    private static final int[] NO_PERSONS = {-1, LEAST, MOST, 8, 9, 16, 31, 32, 33, 64, 256, -32};
    private static final int[] OTHERS = {-1, LEAST, MOST, 4, 5, 32, 256};
    private static final String EIGHT = lines("person * cost 0;", 8);

    public static void main(String[] args) {
        begin(args);
        next();
        askings();
        lasting();
        with();
        rest();
        truth();
        leagues();
        plain();
        votes();
        end();
    }

    private static void next() {
        test("the PERSON and the ROW by which the greatest number of WORLDS LEFT with one answer is least",
            BoundsOfLies::greatestIsLeast);
        test("of like ones the least cost, then the first PERSON, the first ROW", BoundsOfLies::likeNexts);
        test("NONE without PERSONS or ROWS, if none is LEFT, or for another what", BoundsOfLies::noNext);
    }

    private static void nextIs(LieOfTwo x, int person, int row, int greatest) {
        due("NEXT: the PERSON", x.next(0, 0), person);
        due("NEXT: the ROW", x.next(1, 0), row);
        due("NEXT: the number", x.next(2, 0), greatest);
    }

    private static void greatestIsLeast() {
        String facts = "fact a;fact b;fact c;";
        // who knows nothing answers alike in all
        nextIs(of(facts + "person p cost 0;row r a;"), 0, 0, 8);
        nextIs(of(facts + "person p cost 0;person q cost 99 knows a;row r a;"), 1, 0, 4);
        // 0 in six, 1 in two; 0 in four, 2 in four
        nextIs(of(facts + "person p cost 9 knows a b;row r a and b;"), 0, 0, 6);
        nextIs(of(facts + "person p cost 9 knows a b;row r a and b;row s a and c;"), 0, 1, 4);
        // 1 in six, 0 in six, 2 in four
        nextIs(of(facts + "fact d;person p cost 0 knows a;person q cost 99 knows a b c;row r a;"
            + "row s a and (b or c) or not a and b and d;"), 1, 1, 6);
        // 0 in two, 1 in two, 2 in four
        nextIs(of(facts + "person p cost 0 knows a;person q cost 99 knows a b;row r a;row s (a and b) or (not a and (b and c));"),
            0, 0, 4);
        nextIs(of(facts + "person p cost 0 knows c;person q cost 99 knows a b;row s (a and b) or (a and not b and c);"),
            1, 0, 4);
        // one WORLD alone
        LieOfTwo x = of("fact a;person p cost 5 knows a;person q cost 4 knows a;row r a;law 0;");
        nextIs(x, 1, 0, 1);
        x.say(1, 0, false, true);
        nextIs(x, 1, 0, 1);
        due("ahead of it", x.next(2, -1), 1);
        x = of(lines("fact *;", 8) + "person p cost 0;row r a;");
        nextIs(x, 0, 0, 256);
    }

    private static void likeNexts() {
        String head = "fact a;fact b;";
        String rows = "row rab a and b;row ra a;row rb b;";
        nextIs(of(head + "person p cost 99 knows a;person q cost 98 knows b;" + rows), 1, 0, 2);
        nextIs(of(head + "person p cost 1 knows a;person q cost 0 knows b;person s cost 0 knows a;" + rows), 1, 0, 2);
        nextIs(of(head + "person p cost 0 knows a;person q cost 0 knows b;" + rows), 0, 0, 2);
        nextIs(of(head + "person p cost 7 knows a;person q cost 7 knows b;" + rows), 0, 0, 2);
        // a ROW told behind, of the first PERSON, goes ahead of the first ROW of another
        nextIs(of(head + "person p cost 0 knows b;person q cost 0 knows a;row ra a;row rb b;"), 0, 1, 2);
        nextIs(of(head + "person p cost 1 knows b;person q cost 0 knows a;row rb b;row ra a;"), 1, 1, 2);
        // a ROW asked both ways
        nextIs(of(head + "person p cost 0 knows a;row na not a;row ra a;"), 0, 0, 2);
        // by the second ROW alone it can be told as well by the cheaper one
        nextIs(of(head + "person p cost 0 knows a;person q cost 99 knows a b;row r a and b if a or b;row s a or b;"), 0, 1, 2);
        // a less number goes ahead of a less cost
        nextIs(of(head + "always a or b;person p cost 0;person q cost 99 knows a;row ra a;"), 1, 0, 2);
        // the last of all
        nextIs(of(head + lines("person * cost 1;", 7) + "person h cost 1 knows a;" + lines("row r* b;", 11) + "row rl a;"), 7, 11, 2);
    }

    private static void noNext() {
        LieOfTwo x = of("fact a;person p cost 0 knows a;row ra a;row na not a;law 0;");
        nextIs(x, 0, 0, 1);
        for (int what : new int[] {-1, 3, 4, 32, 256, LEAST, MOST}) {
            due("another what " + what, x.next(what, 0), -1);
        }
        x.say(1, 0, false, true);
        x.say(1, 1, false, true);
        nextIs(x, -1, -1, -1);
        due("ahead of it", x.next(2, -1), 1);
        nextIs(of("fact a;row r a;"), -1, -1, -1);
        nextIs(of("fact a;person p cost 0 knows a;"), -1, -1, -1);
        nextIs(of(""), -1, -1, -1);
    }

    private static void askings() {
        test("the least number (0 .. 2) of those", BoundsOfLies::numberOfAskings);
        test("by which it is told in each WORLD LEFT whether the ROW is so", BoundsOfLies::ofEight);
        test("one behind the other, each chosen by answers so far", BoundsOfLies::chosenByAnswers);
        test("ASKINGS; NONE; -2 if there is no such ROW, or none is LEFT", BoundsOfLies::noAskings);
    }

    private static void numberOfAskings() {
        String head = lines("fact *;", 3) + "person p cost 0 knows a;person q cost 0 knows b;person s cost 0 knows c;"
            + "row ra a;row rb b;row rc c;";
        LieOfTwo x = of(head + "row any a or not a;row none a and not a;row x (a or b) and not (a and b);row all a and b and c;"
            + "row y (a or b or c) and not (a and b or b and c or c and a);law 0;");
        due("so in all", x.askings(3, 0), 0);
        due("so in none", x.askings(4, 0), 0);
        due("by one", x.askings(0, 0), 1);
        due("by the last", x.askings(2, 0), 1);
        due("by two", x.askings(5, 0), 2);
        due("three would do", x.askings(6, 0), -1);
        due("three would do", x.askings(7, 0), -1);
        x.say(1, 0, false, true);
        due("one is told", x.askings(0, 0), 0);
        due("one fewer", x.askings(5, 0), 1);
        due("one fewer", x.askings(6, 0), 2);
        due("one fewer", x.askings(7, 0), 2);
        x.say(2, 1, false, true);
        due("two fewer", x.askings(6, 0), 1);
        due("two fewer", x.askings(5, 0), 0);
        x.say(4, 2, false, true);
        due("one WORLD", x.askings(6, 0), 0);
        // the cost does not matter, one may be asked twice
        x = of("fact a;fact b;person p cost 99 knows a b;row r (a or b) and not (a and b);");
        due("who knows it", x.askings(0, 0), 1);
        x = of("fact a;fact b;fact c;always c if a and b;always not c if not (a and b);person p cost 0 knows a b;row ra a;row rb b;row rc c;");
        due("one who can find it out", x.askings(2, 0), 1);
    }

    /** Eight FACTS, each known by another. */
    private static void ofEight() {
        LieOfTwo x = of(lines("fact *;", 8) + lines("person * cost 0 knows *;", 8) + lines("row r* *;", 8)
            + "row x (g or h) and not (g and h);row y g and h or not g and not a;row z f and g and h;law 0;");
        for (int row = 0; row < 8; row++) {
            due("one", x.askings(row, 0), 1);
        }
        due("two", x.askings(8, 0), 2);
        due("two, as g is", x.askings(9, 0), 2);
        due("three would do", x.askings(10, 0), -1);
        for (int row = 7; row >= 0; row--) {
            nextIs(x, 0, 0, 1 << row);
            x.say(1 << row, row, false, true);
            due("told", x.askings(row, 0), 0);
            due("of two", x.askings(8, 0), row == 7 ? 1 : 0);
        }
        x = of(lines("fact *;", 8) + lines("person * cost 0 knows *;", 8) + lines("row r* *;", 8) + "row n a and not a;law 0;");
        for (int row = 0; row < 7; row++) {
            x.say(1 << row, row, false, true);
            due("one more is told", x.askings(row, 0), 0);
            due("the last is not", x.askings(7, 0), 1);
            nextIs(x, row + 1, row + 1, 1 << 6 - row);
        }
        due("never so", x.askings(8, 0), 0);
        // of each two FACTS: so in a quarter of the WORLDS, and nobody can tell, or one can
        for (int one = 0; one < 8; one++) {
            for (int other = one + 1; other < 8; other++) {
                char a = (char) ('a' + one);
                char b = (char) ('a' + other);
                x = of(lines("fact *;", 8) + "person p cost 0;row nn not " + a + " and not " + b + ";row ny not " + a + " and " + b
                    + ";row yn " + a + " and not " + b + ";row yy " + a + " and " + b + ";");
                LieOfTwo y = of(lines("fact *;", 8) + "person p cost 0;person q cost 0 knows " + b + " " + a + ";row nn not " + a
                    + " and not " + b + ";row ny not " + a + " and " + b + ";row yn " + a + " and not " + b + ";row yy " + a + " and " + b + ";");
                for (int row = 0; row < 4; row++) {
                    due("nobody can tell", x.askings(row, 0), -1);
                    due("one can", y.askings(row, 0), 1);
                }
            }
        }
        x = of(lines("fact *;", 8) + "person p cost 0 knows a;person q cost 0 knows b;person s cost 0 knows g h;row ra a;row rb b;"
            + "row gh g or h;row mux a and gh or b and not gh;");
        due("a or b, as one of g and h is", x.askings(3, 0), 2);
    }

    private static void chosenByAnswers() {
        String head = lines("fact *;", 3) + "person p cost 0 knows a;person q cost 0 knows b;person s cost 0 knows c;"
            + "row ra a;row rb b;row rc c;";
        due("b or c, as a is", of(head + "row mux a and b or not a and c;").askings(3, 0), 2);
        due("no matter which goes ahead", of(head + "row mux c and b or not c and a;").askings(3, 0), 2);
        due("both must be known", of(head + "row mux a and b and c or not a and not c;").askings(3, 0), -1);
        // who does not know answers 2, which tells, too
        LieOfTwo x = of("fact a;fact b;fact e;always e if a and b or not a and not b;always not e if a and not b or b and not a;"
            + "person p cost 0 knows a;person q cost 0 knows e;row rb b;row re e;row rab a and b;law 0;");
        due("two ROWS", x.askings(0, 0), 2);
        x.say(2, 1, false, true);
        due("0 tells that b is not, 2 that it is", x.askings(0, 0), 1);
        due("SURE", x.askings(1, 0), 0);
        due("so is that", x.askings(2, 0), 1);
    }

    private static void noAskings() {
        LieOfTwo x = of("fact a;person p cost 0 knows a;person q cost 0;row ra a;row na not a;law 0;");
        for (int row : new int[] {-1, 2, 12, 32, LEAST, MOST}) {
            due("no ROW " + row, x.askings(row, 0), -2);
        }
        x.say(1, 0, false, true);
        x.say(1, 1, false, true);
        due("none is LEFT", x.askings(0, 0), -2);
        due("ahead of it", x.askings(0, -1), 1);
        due("nobody to ask", of("fact a;row r a;").askings(0, 0), -1);
        due("nobody need be asked", of("fact a;row r a or not a;").askings(0, 0), 0);
        due("nobody who knows", of("fact a;person p cost 0;row r a;").askings(0, 0), -1);
        due("no ROWS", of("fact a;person p cost 0;").askings(0, 0), -2);
    }

    private static void lasting() {
        test("how many other PERSONS do not hold that it is not", BoundsOfLies::othersWhoDoNotHold);
        test("NONE if one can't be, or the ROW is so (both one PERSON, too)", BoundsOfLies::noLasts);
    }

    private static void othersWhoDoNotHold() {
        String rows = "row r a;";
        LieOfTwo x = of("fact a;" + EIGHT + rows);
        due("all six others", x.lasts(0, 7, 0, 0), 6);
        due("all six others", x.lasts(3, 4, 0, 0), 6);
        x = of("fact a;" + lines("person * cost 0 knows a;", 8) + rows);
        due("none of six others", x.lasts(0, 7, 0, 0), 0);
        x = of("fact a;" + lines("person * cost 0;", 7) + "person h cost 0 knows a;" + rows);
        due("but the last", x.lasts(0, 1, 0, 0), 5);
        due("the last lies, too", x.lasts(0, 7, 0, 0), 6);
        due("the last lies, too", x.lasts(7, 0, 0, 0), 6);
        x = of("fact a;person p cost 0;person q cost 0;" + rows);
        due("no others", x.lasts(0, 1, 0, 0), 0);
        // the two need not be tied, nor able to LIE
        x = of("fact a;person p cost 0;person q cost 0;person s cost 0;" + rows + "law 0;");
        due("one other", x.lasts(1, 2, 0, 0), 1);
        x = of("fact a;fact b;person p cost 0;person q cost 0;person s cost 0 knows b;row r a and b;");
        due("one who holds that it is not", x.lasts(0, 1, 0, 1), 0);
        due("one who does not know", x.lasts(0, 1, 0, 2), 1);
    }

    private static void noLasts() {
        LieOfTwo x = of("fact a;fact b;always not b;" + EIGHT + "row r a;");
        due("can be", x.lasts(0, 7, 0, 0), 6);
        for (int person : NO_PERSONS) {
            due("no PERSON " + person, x.lasts(person, 1, 0, 0), -1);
            due("no PERSON " + person, x.lasts(1, person, 0, 0), -1);
        }
        for (int person = 0; person < 8; person++) {
            due("one PERSON", x.lasts(person, person, 0, 0), -1);
        }
        due("the ROW is so", x.lasts(0, 1, 0, 1), -1);
        due("none of BASE", x.lasts(0, 1, 0, 2), -1);
        for (int no : new int[] {-1, 4, 12, 256, LEAST, MOST}) {
            due("no WORLD " + no, x.lasts(0, 1, 0, no), -1);
            due("no ROW " + no, x.lasts(0, 1, no, 0), -1);
        }
        due("no ROW", x.lasts(0, 1, 1, 0), -1);
    }

    private static void with() {
        test("of those tied to one that one for whom LASTS * 10 less the price is most; of like ones the first PERSON",
            BoundsOfLies::bestWith);
        test("WITH; NONE if one is tied to none, or one can't be, or the ROW is so", BoundsOfLies::noWith);
    }

    private static void bestWith() {
        String four = "fact a;person p cost 0;person q cost 0;person r cost 0;person s cost 0 knows a;row ra a;";
        due("like ones", of(four + "tie p r price 5;tie p q price 5;").with(0, 0, 0), 1);
        due("a less price", of(four + "tie p q price 5;tie p r price 4;").with(0, 0, 0), 2);
        due("a greater price", of(four + "tie p r price 5;tie p q price 4;").with(0, 0, 0), 1);
        // with s, who alone holds that it is not, one more is fooled: worth ten
        due("nine dearer", of(four + "tie p q price 1;tie p s price 10;").with(0, 0, 0), 3);
        due("ten dearer", of(four + "tie p q price 1;tie p s price 11;").with(0, 0, 0), 1);
        due("eleven dearer", of(four + "tie p q price 1;tie p s price 12;").with(0, 0, 0), 1);
        due("ten dearer, told ahead", of(four + "tie p s price 11;tie p q price 1;").with(0, 0, 0), 1);
        due("below 0", of(four + "tie p q price 99;").with(0, 0, 0), 1);
        due("both below 0", of(four + "tie p q price 99;tie r p price 98;").with(0, 0, 0), 2);
        due("told either way", of(four + "tie q p price 0;").with(0, 0, 0), 1);
        due("told either way", of(four + "tie q p price 0;").with(1, 0, 0), 0);
        // of each of three ties, as told, the other way, and in another order
        String dear = "tie p q price 3;tie p r price 2;tie q r price 1;";
        due("the cheaper for p", of(four + dear).with(0, 0, 0), 2);
        due("the cheaper for q", of(four + dear).with(1, 0, 0), 2);
        due("the cheaper for r", of(four + dear).with(2, 0, 0), 1);
        dear = "tie r q price 3;tie q p price 1;tie r p price 2;";
        due("the cheaper for p", of(four + dear).with(0, 0, 0), 1);
        due("the cheaper for q", of(four + dear).with(1, 0, 0), 0);
        due("the cheaper for r", of(four + dear).with(2, 0, 0), 0);
        due("the last of more", of(four + "tie s p price 50;tie s q price 49;tie s r price 48;").with(3, 0, 0), 2);
        // 0 in all
        due("nobody is fooled", of("fact a;person p cost 0;person q cost 0;row r a;tie p q price 0;").with(1, 0, 0), 0);
        due("nobody is fooled, for a price", of("fact a;person p cost 0;person q cost 0;row r a;tie p q price 1;").with(1, 0, 0), 0);
        LieOfTwo x = of("fact a;row r a;" + EIGHT + lines("tie h * price 3;", 7));
        due("the first of seven", x.with(7, 0, 0), 0);
        due("the last", x.with(0, 0, 0), 7);
    }

    private static void noWith() {
        LieOfTwo x = of("fact a;fact b;always not b;row r a;" + EIGHT + "tie a b price 0;");
        due("tied", x.with(0, 0, 0), 1);
        for (int person = 2; person < 8; person++) {
            due("tied to none", x.with(person, 0, 0), -1);
        }
        for (int person : NO_PERSONS) {
            due("no PERSON " + person, x.with(person, 0, 0), -1);
        }
        due("the ROW is so", x.with(0, 0, 1), -1);
        due("none of BASE", x.with(0, 0, 2), -1);
        for (int no : new int[] {-1, 4, 12, 256, LEAST, MOST}) {
            due("no WORLD " + no, x.with(0, 0, no), -1);
            due("no ROW " + no, x.with(0, no, 0), -1);
        }
        due("no ROW", x.with(0, 1, 0), -1);
    }

    private static void rest() {
        test("the most that both wish (worths of one ROW by both, together, of ROWS that are not so in the WORLD; 0 if none)",
            BoundsOfLies::bothWish);
        test("less twice its price", BoundsOfLies::twiceThePrice);
        test("of all sets of ties in which no PERSON is twice that of the greatest GAIN together", BoundsOfLies::setsOfTies);
        test("of like ones the least number (as bits)", BoundsOfLies::likeRests);
        test("NONE if the WORLD is none of BASE, or for another what", BoundsOfLies::noRest);
    }

    private static void restIs(LieOfTwo x, int world, int gain, int ties) {
        due("GAIN", x.rest(world, 0), gain);
        due("ties", x.rest(world, 1), ties);
    }

    private static void bothWish() {
        String two = "fact a;fact b;person p cost 0;person q cost 0;row ra a;row rb b;tie p q price 0;";
        restIs(of(two), 0, 0, 0);
        restIs(of(two + "wish p ra worth 5;"), 0, 0, 0);
        restIs(of(two + "wish p ra worth 5;wish q rb worth 5;"), 0, 0, 0);
        restIs(of(two + "wish p ra worth 0;wish q ra worth 0;"), 0, 0, 0);
        restIs(of(two + "wish p ra worth 1;wish q ra worth 0;"), 0, 1, 1);
        restIs(of(two + "wish p ra worth 0;wish q ra worth 1;"), 0, 1, 1);
        restIs(of(two + "wish p ra worth 99;wish q ra worth 99;"), 0, 198, 1);
        LieOfTwo x = of(two + "wish p ra worth 3;wish q ra worth 4;wish q rb worth 5;wish p rb worth 6;");
        restIs(x, 0, 11, 1);
        restIs(x, 1, 11, 1);
        restIs(x, 2, 7, 1);
        restIs(x, 3, 0, 0);
        x = of(two + "wish q rb worth 2;wish p rb worth 1;wish p ra worth 3;wish q ra worth 4;");
        restIs(x, 0, 7, 1);
        restIs(x, 1, 3, 1);
        restIs(x, 2, 7, 1);
    }

    private static void twiceThePrice() {
        String two = "fact a;person p cost 0;person q cost 0;row ra a;wish p ra worth 9;wish q ra worth 8;";
        restIs(of(two + "tie p q price 0;"), 0, 17, 1);
        restIs(of(two + "tie q p price 7;"), 0, 3, 1);
        restIs(of(two + "tie q p price 8;"), 0, 1, 1);
        restIs(of(two + "tie q p price 9;"), 0, 0, 0);
        restIs(of(two + "tie q p price 99;"), 0, 0, 0);
        restIs(of(two + "tie q p price 7;"), 1, 0, 0);
        String even = "fact a;person p cost 0;person q cost 0;row ra a;wish p ra worth 9;wish q ra worth 9;";
        restIs(of(even + "tie p q price 9;"), 0, 0, 0);
        restIs(of(even + "tie p q price 8;"), 0, 2, 1);
    }

    private static void setsOfTies() {
        // worths as they are: a 1, b 2, c 4, d 8, e 16, f 32, g 64, h 99
        StringBuilder head = new StringBuilder("fact x;row r x;").append(EIGHT);
        int[] worth = {1, 2, 4, 8, 16, 32, 64, 99};
        for (int i = 0; i < 8; i++) {
            head.append("wish ").append((char) ('a' + i)).append(" r worth ").append(worth[i]).append(';');
        }
        restIs(of(head.toString()), 0, 0, 0);
        restIs(of(head + "tie a b price 0;tie c d price 0;tie e f price 0;tie g h price 0;"), 0, 226, 15);
        restIs(of(head + lines("tie h * price 0;", 7)), 0, 163, 64);
        restIs(of(head + "tie g h price 0;tie f g price 0;tie h e price 0;"), 0, 211, 6);
        restIs(of(head + "tie a b price 1;tie b c price 1;tie c d price 1;tie d e price 1;"), 0, 4 + 22, 9 + 1);
        // twelve ties, of which four have all, the last among them
        restIs(of(head + lines("tie a * price 0;", 8).replace("tie a a price 0;", "") + "tie b c price 0;tie b d price 0;"
            + "tie c d price 0;tie c e price 0;tie f h price 0;"), 0, 226, 1 << 5 | 1 << 8 | 1 << 10 | 1 << 11);
        LieOfTwo x = of(head + "tie a b price 0;tie c d price 0;");
        restIs(x, 0, 15, 3);
        restIs(x, 1, 0, 0);
    }

    private static void likeRests() {
        String four = "fact a;row r a;person p cost 0;person q cost 0;person s cost 0;person t cost 0;";
        String wishes = "wish p r worth 2;wish q r worth 2;wish s r worth 2;wish t r worth 2;";
        restIs(of(four + wishes + "tie p q price 0;tie p s price 0;tie p t price 0;"), 0, 4, 1);
        restIs(of(four + wishes + "tie p q price 1;tie p s price 0;tie p t price 0;"), 0, 4, 2);
        // the first and the last, or the two between them
        restIs(of(four + wishes + "tie p q price 0;tie p s price 0;tie q t price 0;tie s t price 0;"), 0, 8, 6);
        // a tie that gains nothing only makes the number greater
        restIs(of(four + wishes + "tie p q price 2;tie s t price 0;"), 0, 4, 2);
        restIs(of(four + wishes + "tie s t price 0;tie p q price 2;"), 0, 4, 1);
        restIs(of(four + wishes + "tie s t price 2;tie p q price 2;"), 0, 0, 0);
        // one that gains as much as two
        restIs(of(four + "wish p r worth 0;wish q r worth 3;wish s r worth 3;wish t r worth 0;"
            + "tie p q price 0;tie s t price 0;tie q s price 0;"), 0, 6, 3);
        restIs(of(four + "wish p r worth 0;wish q r worth 3;wish s r worth 3;wish t r worth 0;"
            + "tie q s price 0;tie p q price 0;tie s t price 0;"), 0, 6, 1);
    }

    private static void noRest() {
        LieOfTwo x = of(HOUSE + "always rain or home;");
        restIs(x, 2, 6, 1);
        restIs(x, 0, -1, -1);
        for (int world : new int[] {-1, 4, 5, 64, 256, LEAST, MOST}) {
            restIs(x, world, -1, -1);
        }
        for (int what : new int[] {-1, 2, 3, 32, LEAST, MOST}) {
            due("another what " + what, x.rest(2, what), -1);
        }
    }

    private static void truth() {
        test("WORLDS LEFT all alike, said with odds c of ten if it is so, d of ten if it is not", BoundsOfLies::odds);
        test("TRUTH (c, d 0 .. 10): upper part (0), lower part (1), in lowest terms", BoundsOfLies::lowestTerms);
        test("NONE if one can't be, none is LEFT, or it could not be said at all", BoundsOfLies::noTruth);
    }

    private static void truthIs(LieOfTwo x, int c, int d, int upper, int lower) {
        due("upper part of " + c + ", " + d, x.truth(0, c, d, 0, 0), upper);
        due("lower part of " + c + ", " + d, x.truth(0, c, d, 1, 0), lower);
    }

    private static void odds() {
        // so in 3 of 4
        LieOfTwo x = of("fact a;fact b;row r a or b;");
        truthIs(x, 1, 1, 3, 4);
        truthIs(x, 10, 10, 3, 4);
        truthIs(x, 10, 1, 30, 31);
        truthIs(x, 1, 10, 3, 13);
        truthIs(x, 7, 10, 21, 31);
        truthIs(x, 0, 10, 0, 1);
        truthIs(x, 0, 1, 0, 1);
        truthIs(x, 10, 0, 1, 1);
        truthIs(x, 1, 0, 1, 1);
        truthIs(x, 0, 0, -1, -1);
        // so in 1 of 256
        x = of(lines("fact *;", 8) + "row r a and b and c and d and e and f and g and h;");
        truthIs(x, 10, 10, 1, 256);
        truthIs(x, 1, 10, 1, 2551);
        truthIs(x, 10, 1, 2, 53);
        // so in all, so in none
        x = of("fact a;row r a or not a;");
        truthIs(x, 3, 10, 1, 1);
        truthIs(x, 10, 0, 1, 1);
        truthIs(x, 0, 10, -1, -1);
        x = of("fact a;row r a and not a;");
        truthIs(x, 10, 3, 0, 1);
        truthIs(x, 0, 10, 0, 1);
        truthIs(x, 10, 0, -1, -1);
    }

    private static void lowestTerms() {
        LieOfTwo x = of("fact a;row r a;");
        truthIs(x, 2, 4, 1, 3);
        truthIs(x, 4, 2, 2, 3);
        truthIs(x, 6, 9, 2, 5);
        truthIs(x, 9, 6, 3, 5);
        truthIs(x, 10, 5, 2, 3);
        truthIs(x, 7, 3, 7, 10);
        truthIs(x, 8, 8, 1, 2);
    }

    private static void noTruth() {
        LieOfTwo x = of("fact a;person p cost 0 knows a;row ra a;row na not a;law 0;");
        for (int no : new int[] {-1, 11, 12, 100, LEAST, MOST}) {
            truthIs(x, no, 5, -1, -1);
            truthIs(x, 5, no, -1, -1);
        }
        for (int part : new int[] {-1, 2, 3, LEAST, MOST}) {
            due("no part " + part, x.truth(0, 5, 5, part, 0), -1);
        }
        for (int row : new int[] {-1, 2, 12, LEAST, MOST}) {
            due("no ROW " + row, x.truth(row, 5, 5, 0, 0), -1);
        }
        x.say(1, 0, false, true);
        truthIs(x, 5, 5, 1, 1);
        truthIs(x, 0, 5, -1, -1);
        x.say(1, 1, false, true);
        truthIs(x, 5, 5, -1, -1);
    }

    private static void leagues() {
        test("the fewest pairs of PERSONS, none twice in them", BoundsOfLies::pairs);
        test("each SAYING that counts, by two or more, whose ROW is not so in it (surely ones alone), has both of a pair among its PERSONS",
            BoundsOfLies::whichSayings);
        test("LEAGUES; NONE; -2 if the WORLD is none of BASE", BoundsOfLies::noLeagues);
    }

    private static LieOfTwo said(String text, int... persons) {
        LieOfTwo x = of("fact a;row no a and not a;row ra a;" + text);
        for (int who : persons) {
            x.say(who, 0, false, true);
        }
        return x;
    }

    private static void pairs() {
        due("none", said(EIGHT).leagues(0, 0), 0);
        due("one pair", said(EIGHT, 0b11).leagues(0, 0), 1);
        due("one pair of the last", said(EIGHT, 0b11000000).leagues(0, 0), 1);
        due("one pair twice", said(EIGHT, 0b11, 0b11).leagues(0, 0), 1);
        due("one pair in both", said(EIGHT, 0b111, 0b1110).leagues(0, 0), 1);
        due("two pairs", said(EIGHT, 0b11, 0b1100).leagues(0, 0), 2);
        due("one twice", said(EIGHT, 0b11, 0b110).leagues(0, 0), -1);
        due("one would be twice, but for the fourth", said(EIGHT, 0b11, 0b1110).leagues(0, 0), 2);
        due("one would be twice", said(EIGHT, 0b11, 0b110, 0b101).leagues(0, 0), -1);
        due("three pairs", said(EIGHT, 0b11, 0b1100, 0b110000).leagues(0, 0), 3);
        due("four pairs", said(EIGHT, 0b11, 0b1100, 0b110000, 0b11000000).leagues(0, 0), 4);
        due("four pairs and all", said(EIGHT, 255, 0b11, 0b1100, 0b110000, 0b11000000, 0b1011).leagues(0, 0), 4);
        due("no fifth", said(EIGHT, 0b11, 0b1100, 0b110000, 0b11000000, 0b101).leagues(0, 0), -1);
        due("all", said(EIGHT, 255).leagues(0, 0), 1);
        // the pair that is in most of them is not the one to take
        due("two rather than three", said(EIGHT, 0b1111, 0b11, 0b1100).leagues(0, 0), 2);
        due("two", said(EIGHT, 0b0111, 0b1011, 0b1101, 0b1110).leagues(0, 0), 2);
        due("one", said(EIGHT, 0b0111, 0b10011).leagues(0, 0), 1);
        // they need not be tied
        due("tied or not", said(EIGHT + "tie a c price 0;", 0b11, 0b1100).leagues(0, 0), 2);
        for (int one = 3; one < 256; one++) {
            for (int other = one; other < 256; other++) {
                if (Integer.bitCount(one) == 2 && Integer.bitCount(other) == 2) {
                    int due = one == other ? 1 : (one & other) == 0 ? 2 : -1;
                    due("two, of " + one + " and " + other, said(EIGHT, one, other).leagues(0, 0), due);
                }
            }
        }
        due("three in a ring of three", said(EIGHT, 0b11, 0b101, 0b110).leagues(0, 0), -1);
        due("a pair and three others", said(EIGHT, 0b111, 0b11000).leagues(0, 0), 2);
        due("a pair, and one of it with two others", said(EIGHT, 0b11, 0b1101).leagues(0, 0), 2);
        due("a pair, and one of it with one other", said(EIGHT, 0b11, 0b1001, 0b1111).leagues(0, 0), -1);
        due("three with one in common", said(EIGHT, 0b111, 0b11001, 0b1100001).leagues(0, 0), 3);
        LieOfTwo x = said(EIGHT);
        for (int i = 0; i < 39; i++) {
            x.say(255, 0, false, true);
        }
        due("39 of all", x.leagues(0, 0), 1);
        due("the 40th", x.say(3, 0, false, true), 39);
        due("one in all", x.leagues(0, 0), 1);
    }

    private static void whichSayings() {
        LieOfTwo x = said(EIGHT + "law 1;");
        x.say(1, 0, false, true);
        due("by one", x.leagues(0, 0), 0);
        x.say(3, 0, false, false);
        due("a thinking one", x.leagues(0, 0), 0);
        x.say(3, 1, false, true);
        due("by two, not so", x.leagues(0, 0), 1);
        due("by two, so", x.leagues(1, 0), 0);
        x.say(12, 1, true, true);
        due("by two apart", x.leagues(0, 0), 2);
        due("so", x.leagues(1, 0), 0);
        x.later(1);
        x.untell(3);
        due("counts no more", x.leagues(0, 1), 1);
        due("as known ahead", x.leagues(0, 0), 2);
        x.untell(2);
        due("counts no more", x.leagues(0, 1), 0);
        due("ahead of all", x.leagues(0, -1), 0);
        // others have the numbers of those that were there
        x = said(EIGHT);
        x.image(0);
        x.say(12, 0, false, true);
        x.say(3, 0, false, true);
        due("two", x.leagues(0, 0), 2);
        for (int pair : new int[] {3, 12, 48, 192, 3}) {
            for (int other : new int[] {12, 48, 192, 3}) {
                x.back(0);
                x.say(pair, 0, false, true);
                x.say(other, 0, false, true);
                due("two, if they are not one", x.leagues(0, 0), pair == other ? 1 : 2);
            }
        }
        x.back(0);
        x.say(3, 0, false, true);
        x.say(3, 0, false, true);
        due("one", x.leagues(0, 0), 1);
        x.back(0);
        x.say(7, 0, false, true);
        x.say(56, 0, false, true);
        due("two", x.leagues(0, 0), 2);
        x.back(0);
        x.say(3, 0, false, false);
        x.say(12, 0, false, false);
        due("thinking ones", x.leagues(0, 0), 0);
        due("plain", x.plain(0), 0);
        // such as could be said truly, in a WORLD that is not LEFT
        x = of("fact a;person p cost 0 knows a;person q cost 0 knows a;row ra a;law 0;");
        x.say(3, 0, false, true);
        due("a WORLD of BASE that is not LEFT", x.leagues(0, 0), 1);
        due("the one that is LEFT", x.leagues(1, 0), 0);
    }

    private static void noLeagues() {
        LieOfTwo x = of("fact a;fact b;always not b;person p cost 0;person q cost 0;person s cost 0;row no a and not a;");
        due("0 of BASE", x.leagues(0, 0), 0);
        for (int world : new int[] {2, 3, 4, -1, 256, LEAST, MOST}) {
            due("none of BASE " + world, x.leagues(world, 0), -2);
        }
        x.say(3, 0, false, true);
        x.say(6, 0, false, true);
        due("there are none such", x.leagues(0, 0), -1);
        for (int world : new int[] {2, 3, 4, -1, 256, LEAST, MOST}) {
            due("none of BASE " + world, x.leagues(world, 0), -2);
        }
    }

    private static void plain() {
        test("PLAIN: the WORLD LEFT with the fewest; of like ones the first", BoundsOfLies::fewestLeagues);
        test("PLAIN; NONE if there is none such", BoundsOfLies::noPlain);
    }

    private static void fewestLeagues() {
        String rows = lines("fact *;", 8) + lines("row r* *;", 8) + EIGHT;
        LieOfTwo x = of(rows);
        due("nothing told: the first", x.plain(0), 0);
        x.say(3, 7, false, true);
        due("the first with none", x.plain(0), 128);
        x.say(12, 0, false, true);
        due("the first with none", x.plain(0), 129);
        x.say(48, 3, false, true);
        x.say(192, 6, false, true);
        due("the first with none", x.plain(0), 128 + 1 + 8 + 64);
        // one that is never so: all have one at least
        x = of(lines("fact *;", 4) + lines("row r* *;", 4) + "row no a and not a;" + EIGHT);
        x.say(3, 4, false, true);
        due("the first of like ones", x.plain(0), 0);
        x.say(12, 3, false, true);
        due("one rather than two", x.plain(0), 8);
        x.say(12, 2, false, true);
        due("one rather than two", x.plain(0), 12);
        x.say(3, 0, false, true);
        due("the pair is there already", x.plain(0), 12);
        // where all have three, or four
        x = of(lines("fact *;", 2) + "row no a and not a;row na not a;" + EIGHT);
        for (int two : new int[] {3, 12, 48}) {
            x.say(two, 0, false, true);
        }
        due("three in all", x.plain(0), 0);
        x.say(192, 1, false, true);
        due("four where it is so", x.plain(0), 0);
        due("four where it is not", x.leagues(1, 0), 4);
        due("three where it is", x.leagues(0, 0), 3);
        x.say(192, 0, false, true);
        due("four in all", x.plain(0), 0);
        due("four in all", x.leagues(3, 0), 4);
        x = of("fact a;row no a and not a;row ra a;" + EIGHT);
        for (int two : new int[] {3, 12, 48}) {
            x.say(two, 0, false, true);
        }
        x.say(192, 1, false, true);
        due("three rather than four", x.plain(0), 1);
        x.say(129, 0, false, true);
        due("three rather than none", x.plain(0), -1);
        // all 256 have one
        x = of(rows + "row no a and not a;");
        x.say(3, 8, false, true);
        due("the first of like ones", x.plain(0), 0);
        x.say(12, 7, false, true);
        due("the first of like ones", x.plain(0), 128);
        // LEFT: what one who can't LIE says rules the others out
        x = of("fact a;fact b;person p cost 0 knows a b;person q cost 0;row ra a;row rb b;row na not a;");
        x.say(1, 0, false, true);
        due("the first that is LEFT", x.plain(0), 1);
        x.say(3, 1, false, true);
        due("the fewest that is LEFT", x.plain(0), 3);
        x.say(3, 2, false, true);
        due("the pair is there already", x.plain(0), 1);
        due("where all have one", x.leagues(3, 0), 1);
    }

    private static void noPlain() {
        LieOfTwo x = of("fact a;person p cost 0 knows a;person q cost 0;person s cost 0;row ra a;row na not a;");
        due("nothing told", x.plain(0), 0);
        x.say(3, 0, false, true);
        x.say(6, 0, false, true);
        due("none in the first", x.plain(0), 1);
        x.say(3, 1, false, true);
        due("none in the first, one in the last", x.plain(0), 1);
        x.say(6, 1, false, true);
        due("none such in any", x.plain(0), -1);
        x = of("fact a;person p cost 0 knows a;row ra a;row na not a;");
        x.say(1, 0, false, true);
        x.say(1, 1, false, true);
        due("none LEFT", x.plain(0), -1);
        due("ahead of them", x.plain(-1), 0);
    }

    private static void votes() {
        test("who holds it says yes, who holds that it is not says no, others nothing; it is carried if there are more yes",
            BoundsOfLies::voices);
        test("TURNED: the fewest ties, no PERSON twice in them, by which it is carried if it was not, or not if it was",
            BoundsOfLies::turned);
        test("none, if by none", BoundsOfLies::notTurned);
        test("VOTE what 0: yes, 1: no, 2: 1 if it is carried, else 0, 3: TURNED (NONE); NONE if one can't be, or for another what",
            BoundsOfLies::noVotes);
    }

    private static void voteIs(LieOfTwo x, int world, int yes, int no, int carried) {
        due("yes", x.vote(0, world, 0), yes);
        due("no", x.vote(0, world, 1), no);
        due("carried", x.vote(0, world, 2), carried);
    }

    private static void voices() {
        for (int knowing = 0; knowing <= 8; knowing++) {
            LieOfTwo x = of(knowers(knowing, 8 - knowing));
            voteIs(x, 1, knowing, 0, knowing > 0 ? 1 : 0);
            voteIs(x, 0, 0, knowing, 0);
        }
        LieOfTwo x = of("fact x;row r x;");
        voteIs(x, 0, 0, 0, 0);
        voteIs(x, 1, 0, 0, 0);
        due("nobody to turn it", x.vote(0, 0, 3), -1);
    }

    /** One FACT, its ROW, so many who know it, a on, and so many who do not. */
    private static String knowers(int knowing, int others) {
        String all = lines("person * cost 0 knows x;", knowing + others);
        for (int i = knowing; i < knowing + others; i++) {
            char name = (char) ('a' + i);
            all = all.replace("person " + name + " cost 0 knows x;", "person " + name + " cost 0;");
        }
        return "fact x;row r x;" + all;
    }

    private static void turnedIs(int knowing, int others, String ties, int wasCarried, int wasNot) {
        LieOfTwo x = of(knowers(knowing, others) + ties);
        due(knowing + " yes, " + others + " others, " + ties, x.vote(0, 1, 3), wasCarried);
        due(knowing + " no, " + others + " others, " + ties, x.vote(0, 0, 3), wasNot);
    }

    private static void turned() {
        // two who say nothing: two voices more; a draw is not carried
        turnedIs(0, 2, "tie a b price 0;", 1, 1);
        turnedIs(1, 2, "tie b c price 0;", 1, 1);
        turnedIs(2, 2, "tie c d price 0;", 1, -1);
        turnedIs(3, 2, "tie d e price 0;", -1, -1);
        // one of two says nothing: three voices
        turnedIs(1, 1, "tie a b price 0;", 1, 1);
        turnedIs(2, 1, "tie b c price 0;", 1, 1);
        turnedIs(3, 1, "tie d c price 0;", 1, -1);
        turnedIs(4, 1, "tie d e price 0;", -1, -1);
        // both say it: four voices
        turnedIs(2, 0, "tie a b price 0;", 1, 1);
        turnedIs(3, 0, "tie a b price 0;", 1, 1);
        turnedIs(4, 0, "tie a b price 0;", 1, -1);
        turnedIs(5, 0, "tie a b price 0;", -1, -1);
        // by more ties
        turnedIs(8, 0, "tie a b price 0;tie c d price 0;", 2, -1);
        turnedIs(8, 0, "tie a b price 0;tie c d price 0;tie e f price 0;", 2, 3);
        turnedIs(8, 0, "tie a b price 0;tie c d price 0;tie e f price 0;tie g h price 0;", 2, 3);
        turnedIs(6, 2, "tie g h price 0;tie a b price 0;tie c d price 0;", 2, 2);
        // the fewest, though they are told behind
        turnedIs(4, 4, "tie e f price 0;tie g h price 0;tie a b price 0;", 1, 2);
        turnedIs(3, 4, "tie d e price 0;tie f g price 0;tie a b price 0;", 1, 1);
    }

    private static void notTurned() {
        turnedIs(1, 0, "", -1, -1);
        turnedIs(8, 0, "", -1, -1);
        turnedIs(0, 8, "", -1, -1);
        // one who is in all ties
        turnedIs(8, 0, lines("tie h * price 0;", 7), -1, -1);
        turnedIs(5, 1, "tie a b price 0;tie b c price 0;tie c a price 0;", -1, -1);
        turnedIs(5, 1, "tie a b price 0;tie b c price 0;tie c f price 0;", 2, 2);
        // the price does not matter, nor the law
        turnedIs(0, 2, "tie a b price 99;law 0;", 1, 1);
    }

    private static void noVotes() {
        LieOfTwo x = of(knowers(3, 1) + "fact y;always not y;tie a d price 0;");
        due("TURNED", x.vote(0, 0, 3), -1);
        due("TURNED", x.vote(0, 1, 3), 1);
        for (int what : OTHERS) {
            due("another what " + what, x.vote(0, 0, what), -1);
            due("another what " + what, x.vote(0, 1, what), -1);
        }
        for (int what = 0; what < 4; what++) {
            for (int world : new int[] {-1, 2, 3, 4, 256, LEAST, MOST}) {
                due("none of BASE " + world, x.vote(0, world, what), -1);
            }
            for (int row : new int[] {-1, 1, 12, 32, LEAST, MOST}) {
                due("no ROW " + row, x.vote(row, 0, what), -1);
            }
        }
    }
}
