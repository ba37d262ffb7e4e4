/** What a new object answers, and what a refused call leaves behind: each test is named by the words of the document. */
public final class BoundsOfCalls extends Checks {
    private static final int BLANKS = 0x20202020;
    private static final int[] WILD = {LEAST, LEAST + 1, -1000, -2, -1, 0, 1, 2, 3, 9, 40, 256, 100000, MOST - 1, MOST};

    public static void main(String[] args) {
        begin(args);
        newObject();
        feeding();
        towns();
        refusals();
        boxes();
        about();
        end();
    }

    private static void newObject() {
        test("An empty TOWN", BoundsOfCalls::nothingTold);
        test("There is none", () -> due("NONE", LieOfTwo.NONE, -1));
        test("LieOfTwo()`: An empty TOWN", BoundsOfCalls::objectsApart);
    }

    /** Each call on a new object, with what numbers it may be given. */
    private static void nothingTold() {
        for (int n : WILD) {
            LieOfTwo x = new LieOfTwo();
            due("is " + n, x.is(n, 0), -1);
            due("is " + n, x.is(0, n), -1);
            due("answers " + n, x.answers(n, 0, 0), -1);
            due("lies " + n, x.lies(n, false, true), -1);
            due("may " + n, x.may(n, 0, false, true, 0), -1);
            due("say " + n, x.say(n, 0, true, false), -1);
            due("untell " + n, x.untell(n), false);
            due("left " + n, x.left(n), 1);
            due("world " + n, x.world(n, 0), n == 0 ? 0 : -1);
            due("world at " + n, x.world(0, n), 0);
            due("sure " + n, x.sure(n, 0), -1);
            due("proof " + n, x.proof(n, 0), -1);
            due("judge " + n, x.judge(n, 0), n == 0 ? -1 : -2);
            due("next " + n, x.next(n, 0), -1);
            due("askings " + n, x.askings(n, 0), -2);
            due("lasts " + n, x.lasts(n, 1, 0, 0), -1);
            due("with " + n, x.with(n, 0, 0), -1);
            due("rest " + n, x.rest(n, 0), n == 0 ? 0 : -1);
            due("rest " + n, x.rest(0, n), n == 0 || n == 1 ? 0 : -1);
            due("truth " + n, x.truth(n, 5, 5, 0, 0), -1);
            due("leagues " + n, x.leagues(n, 0), n == 0 ? 0 : -2);
            due("plain " + n, x.plain(n), 0);
            due("vote " + n, x.vote(n, 0, 0), -1);
            due("back " + n, x.back(n), -1);
            due("fault " + n, x.fault(n), n == 0 ? 0 : -1);
            due("end " + n, x.end(n), n == 0 ? 0 : -1);
            due("about " + n, x.about(n), n == 9 ? 1 : n >= 0 && n < 9 ? 0 : -1);
            due("later " + n, x.later(n), n >= 0 && n <= 1000 ? n : -1);
            due("image " + n, x.image(n), n >= 0 && n < 3 ? 0 : -1);
        }
    }

    private static void objectsApart() {
        LieOfTwo x = of(HOUSE);
        LieOfTwo y = new LieOfTwo();
        x.say(1, 0, false, true);
        x.image(0);
        x.later(7);
        tape(x, "fact");
        for (int what = 0; what < 9; what++) {
            due("about " + what, y.about(what), 0);
        }
        due("back", y.back(0), -1);
        due("town", y.town(), 1);
        town(y, "fact a;");
        due("the other one", x.about(9), 4);
        due("its SAYINGS", x.left(7), 2);
    }

    private static void feeding() {
        test("Twenty bytes come behind those on the TAPE, of each number the highest first: how many there are", BoundsOfCalls::byteOrder);
        test("NONE, and nothing comes, if there would be more than 1,600", BoundsOfCalls::fullTape);
        test("The TAPE has its first n bytes: n; NONE, doing nothing, if it has not so many, or n is below 0", BoundsOfCalls::ends);
    }

    private static void byteOrder() {
        // "fact abcdefgh;fact i" and, behind it, "jklmnop;" with blanks
        LieOfTwo x = new LieOfTwo();
        due("20", x.feed(0x66616374, 0x20616263, 0x64656667, 0x683b6661, 0x63742069), 20);
        due("40", x.feed(0x6a6b6c6d, 0x6e6f703b, BLANKS, BLANKS, BLANKS), 40);
        due("two FACTS", x.town(), 4);
        // each byte of each number by itself: 0 there is no TOKEN
        for (int at = 0; at < 20; at++) {
            int[] n = {BLANKS, BLANKS, BLANKS, BLANKS, BLANKS};
            n[at / 4] &= ~(255 << 24 - at % 4 * 8);
            x = new LieOfTwo();
            x.feed(n[0], n[1], n[2], n[3], n[4]);
            due("a 0 among blanks", x.town(), -1);
            due("its place", x.fault(1), at);
            // a byte of ones only, so that the number may be below 0
            n[at / 4] |= 255 << 24 - at % 4 * 8;
            x.feed(BLANKS, BLANKS, BLANKS, BLANKS, BLANKS);
            x.feed(n[0], n[1], n[2], n[3], n[4]);
            due("a 255 among blanks", x.town(), -1);
            due("its place", x.fault(1), 20 + at);
        }
    }

    private static void fullTape() {
        LieOfTwo x = new LieOfTwo();
        for (int i = 1; i <= 80; i++) {
            due("feed", x.feed(BLANKS, BLANKS, BLANKS, BLANKS, BLANKS), 20 * i);
        }
        due("81st", x.feed(0, 0, 0, 0, 0), -1);
        due("nothing comes", x.about(7), 1600);
        due("one byte less", x.end(1599), 1599);
        due("19 would fit", x.feed(0, 0, 0, 0, 0), -1);
        due("nothing comes", x.about(7), 1599);
        due("1581", x.end(1581), 1581);
        due("19 would fit", x.feed(0, 0, 0, 0, 0), -1);
        due("nothing comes", x.about(7), 1581);
        due("1580", x.end(1580), 1580);
        due("20 fit", x.feed(0x66616374, 0x20612020, BLANKS, BLANKS, 0x2020203b), 1600);
        due("81st again", x.feed(0, 0, 0, 0, 0), -1);
        due("what came is the TOWN", x.town(), 2);
        due("empty then", x.about(7), 0);
        due("room again", x.feed(0, 0, 0, 0, 0), 20);
    }

    private static void ends() {
        LieOfTwo x = new LieOfTwo();
        due("0 of 0", x.end(0), 0);
        due("1 of 0", x.end(1), -1);
        tape(x, "fact a;fact b;");
        due("bytes", x.about(7), 14);
        for (int n : new int[] {15, 16, 20, 1600, 1601, -1, -14, LEAST, MOST}) {
            due("not so many " + n, x.end(n), -1);
        }
        due("doing nothing", x.about(7), 14);
        due("all of them", x.end(14), 14);
        due("one less", x.end(13), 13);
        due("those behind are gone", x.end(14), -1);
        due("7", x.end(7), 7);
        due("the first 7 are the TOWN", x.town(), 2);
        due("the TAPE is empty", x.end(1), -1);
        // what was there ahead does not come again
        tape(x, "fact a;fact b;");
        x.end(0);
        tape(x, "fact c;");
        due("one FACT", x.town(), 2);
        tape(x, "fact a;");
        x.end(6);
        tape(x, ";row r a;");
        due("the bytes behind come at once", x.town(), 2);
        due("ROWS", x.about(2), 1);
        tape(x, "fact a;");
        x.end(6);
        tape(x, "b;row r ab;");
        due("in one NAME", x.town(), 2);
    }

    private static void towns() {
        test("The TAPE (empty then) is the TOWN (SAYINGS are none, BOXES are empty then; the TIME stays)", BoundsOfCalls::goodTown);
        test("(SAYINGS are none, BOXES are empty then; the TIME stays)", BoundsOfCalls::nothingLasts);
        test("80 units in all", BoundsOfCalls::fullTown);
        test("NONE: a FAULT (the TAPE is empty then, too; all else stays)", BoundsOfCalls::badTown);
        test("Of the latest town() what 0: its FAULT (0: without; ahead of any, too), 1: its place (NONE)", BoundsOfCalls::latestFault);
        test("NONE for another what", BoundsOfCalls::otherFaults);
    }

    private static void goodTown() {
        LieOfTwo x = of(HOUSE);
        x.later(3);
        for (int box = 0; box < 3; box++) {
            x.say(1, 0, false, true);
            due("image", x.image(box), box + 1);
        }
        tape(x, "fact a;fact b;fact c;row r a;person p cost 0;");
        due("all stays till then", x.about(5), 3);
        due("BASE", x.town(), 8);
        int[] due = {3, 1, 1, 0, 0, 0, 3, 0, 1, 8};
        for (int what = 0; what < 10; what++) {
            due("about " + what, x.about(what), due[what]);
        }
        for (int box = 0; box < 3; box++) {
            due("BOX " + box, x.back(box), -1);
        }
        due("left", x.left(3), 8);
        due("the first SAYING", x.say(1, 0, false, false), 0);
        due("untell", x.untell(1), false);
        due("the same TOWN again", town(x, HOUSE), 4);
        due("SAYINGS are none", x.about(5), 0);
    }

    /** Of a TOWN that told more nothing is left in one that tells less. */
    private static void nothingLasts() {
        String rich = "fact a;fact b;fact c;person p cost 9 knows b;person q cost 8 knows a b c;person s cost 7 knows c;row ra a;row rb b;"
            + "row rc c;tie p q price 5;tie q s price 5;tie s p price 0;wish p ra worth 9;wish q ra worth 8;wish p rb worth 7;"
            + "wish q rb worth 6;always a or b;always c or b;law 1;";
        String poor = "fact a;fact b;person p cost 0;person q cost 0;row rb b;";
        String tied = poor + "tie q p price 1;";
        LieOfTwo x = new LieOfTwo();
        for (int again = 0; again < 4; again++) {
            due("the richer one", town(x, rich), 5);
            due("askings", x.askings(0, 0), 1);
            due("rest", x.rest(4 + 2, 0), 7);
            due("may LIE", x.lies(1, false, true), 1);
            due("the poorer one", town(x, again % 2 == 0 ? poor : tied), 4);
            due("nobody can tell", x.askings(0, 0), -1);
            due("nobody knows", x.answers(0, 0, 2), 2);
            due("no other ROW", x.answers(0, 1, 2), -1);
            due("no other PERSON", x.answers(2, 0, 2), -1);
            due("next", x.next(0, 0), 0);
            due("next", x.next(2, 0), 4);
            due("wishes", x.rest(0, 0), 0);
            due("turned", x.vote(0, 0, 3), again % 2 == 0 ? -1 : 1);
            due("tied", x.with(1, 0, 0), again % 2 == 0 ? -1 : 0);
            due("law", x.lies(1, false, true), 0);
            due("units", x.about(8), 1);
            due("an empty one", again % 2 == 0 ? town(x, "") : 1, 1);
        }
    }

    /** All that can be told, and each call on it. */
    private static void fullTown() {
        LieOfTwo x = of(lines("fact *;", 8) + lines("person * cost 0 knows *;", 8) + lines("row r* *;", 8)
            + "row three a and c and e;row rj a or not a;row rk a and not a;row rl not b;"
            + "always rj;always rl or b;always not rk;always rj or rk;"
            + lines("tie a * price 0;", 8).replace("tie a a price 0;", "")
            + "tie h b price 0;tie h c price 0;tie h d price 0;tie h e price 0;tie h f price 0;"
            + lines("wish * rk worth 1;", 8) + "wish b ra worth 50;wish c ra worth 50;wish f rl worth 30;wish h rl worth 40;"
            + "law voices-1" + times("+0", 56) + ";");
        int[] due = {8, 8, 12, 12, 12, 0, 0, 0, 80, 256};
        for (int what = 0; what < 10; what++) {
            due("about " + what, x.about(what), due[what]);
        }
        due("the last ROW is so", x.is(11, 253), 1);
        due("the last ROW is not", x.is(11, 255), 0);
        due("who knows", x.answers(1, 11, 0), 1);
        due("who does not", x.answers(7, 11, 0), 2);
        due("next", x.next(0, 0), 0);
        due("next", x.next(1, 0), 0);
        due("next", x.next(2, 0), 128);
        due("by the last PERSON", x.askings(7, 0), 1);
        due("three would do", x.askings(8, 0), -1);
        due("so in all", x.askings(9, 0), 0);
        due("by the second", x.askings(11, 0), 1);
        due("all hold that it is not", x.lasts(0, 7, 10, 255), 0);
        due("one holds that it is not", x.lasts(0, 7, 11, 255), 5);
        due("with that one", x.with(7, 11, 255), 1);
        due("with that one", x.with(0, 11, 255), 1);
        due("GAIN", x.rest(0, 0), 4);
        due("ties", x.rest(0, 1), 130);
        due("GAIN with the last tie", x.rest(2, 0), 72);
        due("the first and the last tie", x.rest(2, 1), 2049);
        due("all say no", x.vote(10, 0, 1), 8);
        due("two pairs at most", x.vote(10, 0, 3), -1);
        due("all say yes", x.vote(9, 255, 0), 8);
        due("two pairs", x.vote(9, 255, 3), 2);
        due("one says yes", x.vote(11, 0, 3), 1);
        due("truth", x.truth(11, 10, 10, 1, 0), 2);
        due("sure", x.sure(9, 0), 1);
        due("proof", x.proof(9, 0), 0);
        for (int i = 0; i < 40; i++) {
            x.say(i < 39 ? 3 : 192, 10, false, true);
        }
        due("all are LEFT", x.left(0), 256);
        due("leagues", x.leagues(255, 0), 2);
        due("plain", x.plain(0), 0);
        due("judge", x.judge(255, 0), -1);
        for (int box = 0; box < 3; box++) {
            due("image", x.image(box), 40);
        }
        waitingInFull();
    }

    // A long ROW of eight FACTS, and one that always names.
    private static void waitingInFull() {
        LieOfTwo x = of(lines("fact *;", 8) + "row r " + times("a if b or c and (", 7) + "a if b or c and h" + times(")", 7)
            + ";always r;");
        due("none of BASE", x.is(0, 4), -1);
        due("of BASE", x.is(0, 132), 1);
        due("of BASE", x.is(0, 133), 1);
        due("none of BASE", x.is(0, 134), -1);
        due("of BASE", x.is(0, 128), 1);
        due("of BASE", x.is(0, 0), 1);
    }

    private static void badTown() {
        String[] bad = {"fact", "fact a;$", "fact a;fact a;", "person p cost 100;", "row r a;",
            "fact a;fact b;fact c;person p cost 7 knows a;row r a;row s b;always a;tie p p price 1;",
            "fact z;person y cost 0;person x cost 9 knows z;row w z;row v holds x w;tie x y price 0;wish y v worth 1;law apart;always not z;;"};
        LieOfTwo x = of(HOUSE + "law voices = 2 or apart;");
        x.later(4);
        x.say(3, 0, false, true);
        x.say(1, 0, false, true);
        x.image(1);
        x.untell(1);
        for (String text : bad) {
            due("a FAULT", town(x, text), -1);
            due("the TAPE is empty", x.about(7), 0);
            int[] due = {2, 3, 4, 2, 2, 2, 4, 0, 8, 4};
            for (int what = 0; what < 10; what++) {
                due("about " + what, x.about(what), due[what]);
            }
            houseAnswers(x);
        }
        due("an empty TAPE is a TOWN", x.town(), 1);
        due("BOX", x.back(1), -1);
    }

    // What the HOUSE with its two SAYINGS answers, and its third is told and taken back.
    private static void houseAnswers(LieOfTwo x) {
        due("is", x.is(3, 1), 1);
        due("is", x.is(1, 2), 0);
        due("answers", x.answers(1, 1, 0), 1);
        due("lies", x.lies(1, true, true), 1);
        due("lies", x.lies(7, false, true), 0);
        due("left", x.left(4), 4);
        due("untold already", x.untell(1), false);
        due("the next number", x.say(1, 0, false, true), 2);
        due("left", x.left(4), 2);
        due("world", x.world(1, 4), 3);
        due("back", x.back(1), 2);
        due("as it was kept", x.left(4), 2);
        due("untell", x.untell(1), true);
        due("with", x.with(1, 0, 0), 0);
        due("rest", x.rest(0, 0), 6);
        due("leagues", x.leagues(0, 4), 1);
        due("vote", x.vote(0, 1, 0), 1);
        due("next", x.next(0, 4), 0);
    }

    private static void latestFault() {
        LieOfTwo x = new LieOfTwo();
        due("ahead of any", x.fault(0), 0);
        due("ahead of any", x.fault(1), -1);
        town(x, "row r a;");
        due("5", x.fault(0), 5);
        due("at 6", x.fault(1), 6);
        tape(x, "fact a;");
        due("till the next town()", x.fault(0), 5);
        x.town();
        due("without", x.fault(0), 0);
        due("without", x.fault(1), -1);
        String[] texts = {"$", "fact", "fact a;fact a;", "person p cost 100;", "row r a;"};
        int[] places = {0, 4, 12, 14, 6};
        for (int i = 0; i < 5; i++) {
            town(x, texts[i]);
            due("each of them", x.fault(0), i + 1);
            due("its place", x.fault(1), places[i]);
            due("asked again", x.fault(0), i + 1);
        }
        x.town();
        due("without, by an empty TAPE", x.fault(0), 0);
        due("without, by an empty TAPE", x.fault(1), -1);
    }

    private static void otherFaults() {
        LieOfTwo x = new LieOfTwo();
        town(x, "fact a;fact a;");
        for (int what : WILD) {
            due("fault " + what, x.fault(what), what == 0 ? 3 : what == 1 ? 12 : -1);
        }
    }

    private static void refusals() {
        test("A SAYING: its number; NONE, doing nothing, if one can't be, or there are 40", BoundsOfCalls::refusedSayings);
        test("if it is so already, or there is none such", BoundsOfCalls::refusedUntellings);
        test("NONE, doing nothing, for another number", BoundsOfCalls::refusedTimes);
        test("1 if they may LIE so, else 0; NONE if there are no such PERSONS (as bits)", BoundsOfCalls::askingChangesNothing);
    }

    private static void refusedSayings() {
        LieOfTwo x = of(HOUSE + "law 0;");
        due("the first", x.say(1, 0, false, true), 0);
        due("no PERSONS", x.say(0, 1, false, true), -1);
        due("no such PERSONS", x.say(8, 1, false, true), -1);
        due("no such PERSONS", x.say(9, 1, false, true), -1);
        due("no such ROW", x.say(2, 4, false, true), -1);
        due("no such ROW", x.say(2, -1, false, true), -1);
        due("doing nothing", x.about(5), 1);
        due("doing nothing", x.left(0), 2);
        due("doing nothing", x.proof(0, 0), 1);
        due("the next number", x.say(2, 1, false, true), 1);
        due("the last ROW", x.say(7, 3, false, false), 2);
        due("left", x.left(0), 1);
    }

    private static void refusedUntellings() {
        LieOfTwo x = of(HOUSE + "law 0;");
        due("nothing told yet", x.untell(0), false);
        x.say(1, 0, false, true);
        x.later(5);
        due("not the next one", x.untell(1), false);
        due("untell", x.untell(0), true);
        x.later(5);
        due("so already", x.untell(0), false);
        due("UNTOLD at 5", x.left(5), 4);
        due("UNTOLD at 5", x.left(4), 2);
        due("the next one", x.say(1, 0, false, true), 1);
        due("TOLD at 10", x.left(9), 4);
        due("TOLD at 10", x.left(10), 2);
    }

    private static void refusedTimes() {
        LieOfTwo x = of(HOUSE + "law 0;");
        x.later(1);
        due("another number", x.later(1001), -1);
        due("another number", x.later(-1), -1);
        due("wrapped around", x.later(MOST), -1);
        due("wrapped around", x.later(LEAST), -1);
        due("another what", x.next(3, 0), -1);
        due("doing nothing", x.about(6), 1);
        x.say(1, 0, false, true);
        due("TOLD at 1", x.left(0), 4);
        due("TOLD at 1", x.left(1), 2);
        due("later", x.later(1000), 1001);
    }

    /** Calls that only ask leave all as it was. */
    private static void askingChangesNothing() {
        LieOfTwo x = of(HOUSE + "law voices = 2;");
        x.say(3, 0, false, true);
        x.say(1, 0, false, true);
        for (int turn = 0; turn < 2; turn++) {
            due("lies", x.lies(3, false, true), 1);
            due("lies", x.lies(7, false, true), 0);
            due("lies", x.lies(8, false, true), -1);
            due("lies", x.lies(0, false, true), -1);
            due("may", x.may(3, 1, false, true, 3), 1);
            due("may", x.may(2, 1, false, true, 3), 0);
            due("left", x.left(0), 2);
            due("left", x.left(-1), 4);
            due("world", x.world(1, 0), 3);
            due("sure", x.sure(0, 0), 1);
            due("sure", x.sure(1, 0), -2);
            due("proof", x.proof(0, 0), 2);
            due("judge", x.judge(0, 0), 1);
            due("next", x.next(0, 0), 1);
            due("askings", x.askings(1, 0), 1);
            due("askings", x.askings(0, -1), 1);
            due("rest", x.rest(0, 1), 1);
            due("vote", x.vote(0, 1, 3), 1);
            due("truth", x.truth(1, 5, 5, 1, 0), 2);
            due("leagues", x.leagues(0, 0), 1);
            due("plain", x.plain(0), 1);
            due("SAYINGS", x.about(5), 2);
            due("the TIME", x.about(6), 0);
        }
    }

    private static void boxes() {
        test("SAYINGS are kept in a BOX 0 .. 2 (as TOLD and UNTOLD): how many; NONE if there is none such", BoundsOfCalls::keeping);
        test("as they were kept", BoundsOfCalls::overwritten);
        test("All SAYINGS are as they were kept (the TIME goes on): how many; NONE, doing nothing, if nothing was", BoundsOfCalls::goingBack);
    }

    private static void keeping() {
        LieOfTwo x = of("fact a;fact b;person p cost 0 knows a b;row ra a;row rb b;law 0;");
        for (int box : new int[] {-1, 3, 4, 32, 256, LEAST, MOST}) {
            due("no BOX " + box, x.image(box), -1);
            due("no BOX " + box, x.back(box), -1);
        }
        due("none yet", x.image(0), 0);
        for (int i = 0; i < 39; i++) {
            x.say(1, 0, false, true);
        }
        due("39", x.image(1), 39);
        x.untell(38);
        due("the 40th", x.say(1, 1, false, true), 39);
        due("40", x.image(2), 40);
        due("all are there", x.left(0), 1);
        due("back to 39", x.back(1), 39);
        due("as they were", x.left(0), 2);
        due("not UNTOLD", x.untell(38), true);
        due("back to none", x.back(0), 0);
        due("as it was", x.left(0), 4);
        due("the first again", x.say(1, 1, false, true), 0);
        due("back to 40", x.back(2), 40);
        due("as they were", x.left(0), 1);
        due("UNTOLD", x.untell(38), false);
        due("no 41st", x.say(1, 0, false, true), -1);
        due("kept anew over them", x.image(0), 40);
        due("the BOX is kept when gone back to", x.back(1), 39);
        due("and again", x.back(1), 39);
        due("the one kept anew", x.back(0), 40);
    }

    /** What is kept is not what is told over it: PERSONS, ROW, surely, TIME and what can be said. */
    private static void overwritten() {
        LieOfTwo x = of("fact a;fact b;" + lines("person * cost 0 knows a;", 8) + "row ra a;row rb b;law voices - 1;");
        due("none", x.image(0), 0);
        x.later(1);
        x.say(3, 0, false, true);
        x.say(12, 0, true, true);
        x.say(1, 0, false, true);
        due("kept", x.image(1), 3);
        x.later(1);
        due("none", x.back(0), 0);
        x.say(3, 1, false, false);
        x.say(3, 1, false, true);
        x.say(3, 1, false, true);
        x.say(3, 1, false, true);
        due("kept", x.image(2), 4);
        due("those told over them", x.leagues(0, 2), 1);
        due("those told over them", x.left(2), 4);
        due("as kept", x.back(1), 3);
        due("their PERSONS", x.leagues(0, 2), 2);
        due("their ROW", x.leagues(2, 2), 2);
        due("their ROW", x.leagues(1, 2), 0);
        due("their TIME", x.leagues(0, 1), 2);
        due("their TIME", x.leagues(0, 0), 0);
        due("what can be said", x.left(1), 2);
        due("what can be said", x.judge(2, 1), 2);
        due("as kept", x.back(2), 4);
        due("one pair", x.leagues(0, 2), 1);
        due("their ROW", x.leagues(2, 2), 0);
        due("their TIME", x.leagues(0, 1), 0);
        due("what can be said", x.left(2), 4);
        // forty, of which the last alone rules something out
        x = of("fact a;fact b;fact c;fact d;fact e;fact f;fact g;fact h;person p cost 0 knows h;row any h or not h;row rh h;row nh not h;law 0;");
        x.image(0);
        for (int i = 0; i < 40; i++) {
            x.say(1, i < 39 ? 0 : 1, false, true);
        }
        x.image(1);
        x.back(0);
        for (int i = 0; i < 40; i++) {
            x.say(1, i < 39 ? 0 : 2, false, true);
        }
        due("kept over the first BOX", x.image(0), 40);
        due("the last rules out", x.world(0, 0), 0);
        due("back", x.back(1), 40);
        due("the last rules out", x.world(0, 0), 128);
        due("half", x.left(0), 128);
        due("judge", x.judge(127, 0), 39);
        due("back", x.back(0), 40);
        due("judge", x.judge(128, 0), 39);
        due("judge", x.judge(127, 0), -1);
    }

    private static void goingBack() {
        LieOfTwo x = of("fact a;fact b;person p cost 0 knows a b;row ra a;row rb b;row nb not b;law 0;");
        x.say(1, 0, false, true);
        for (int box = -1; box < 4; box++) {
            due("nothing was kept", x.back(box), -1);
        }
        due("doing nothing", x.about(5), 1);
        due("doing nothing", x.left(0), 2);
        x.later(2);
        due("kept", x.image(0), 1);
        x.later(3);
        x.untell(0);
        x.say(1, 1, false, true);
        due("another one is empty", x.back(1), -1);
        due("doing nothing", x.world(0, 5), 2);
        due("back", x.back(0), 1);
        due("the TIME goes on", x.about(6), 5);
        due("TOLD at 0", x.left(-1), 4);
        due("TOLD at 0", x.left(0), 2);
        due("not UNTOLD at 5", x.world(0, 5), 1);
        due("gone", x.untell(1), false);
        due("told anew", x.say(1, 2, false, true), 1);
        due("at 5", x.left(4), 2);
        due("at 5", x.left(5), 1);
        due("it", x.world(0, 5), 1);
        x.untell(0);
        due("UNTOLD at 5", x.left(5), 2);
        due("the BOX is as it was", x.back(0), 1);
        due("the BOX is as it was", x.world(0, 5), 1);
        // what is kept as UNTOLD, with its TIME
        x.later(1);
        x.untell(0);
        x.image(2);
        x.back(0);
        x.later(1);
        due("back to the UNTOLD one", x.back(2), 1);
        due("UNTOLD at 6", x.left(5), 2);
        due("UNTOLD at 6", x.left(6), 4);
        due("so already", x.untell(0), false);
    }

    private static void about() {
        test("What 0: FACTS, 1: PERSONS, 2: ROWS, 3: ties, 4: wishes, 5: SAYINGS, 6: the TIME, 7: bytes on the TAPE, 8: units, 9: WORLDS of BASE",
            BoundsOfCalls::aboutAll);
    }

    private static void aboutAll() {
        LieOfTwo x = of("fact a;fact b;fact c;person p cost 0 knows a;person q cost 0;row r (a);row s not r or b;row t c;row u thinks p c;"
            + "tie p q price 0;always a or b;wish p r worth 1;wish q r worth 2;wish p s worth 0;wish p t worth 0;wish p u worth 0;law (voices) > 1;");
        for (int i = 0; i < 7; i++) {
            x.say(1, 0, false, true);
        }
        x.untell(3);
        x.later(8);
        tape(x, "fact a; row");
        int[] due = {3, 2, 4, 1, 5, 7, 8, 11, 11, 6};
        for (int what = 0; what < 10; what++) {
            due("about " + what, x.about(what), due[what]);
        }
        for (int what : new int[] {-1, 10, 11, 16, 32, 256, LEAST, MOST}) {
            due("another what " + what, x.about(what), -1);
        }
        // all places taken
        String full = lines("fact *;", 8) + lines("person * cost 0;", 8) + lines("row r* a;", 12)
            + lines("tie a * price 0;", 8).replace("tie a a price 0;", "") + lines("tie h * price 0;", 6).replace("tie h a price 0;", "")
            + lines("wish a r* worth 0;", 12) + "law 1" + times("+1", 67) + ";";
        x = of(full);
        for (int i = 0; i < 40; i++) {
            x.say(1, 0, false, true);
        }
        for (int i = 0; i < 100; i++) {
            x.later(1000);
        }
        for (int i = 0; i < 80; i++) {
            x.feed(BLANKS, BLANKS, BLANKS, BLANKS, BLANKS);
        }
        int[] most = {8, 8, 12, 12, 12, 40, 100000, 1600, 80, 256};
        for (int what = 0; what < 10; what++) {
            due("about " + what, x.about(what), most[what]);
        }
    }
}
