/** The edges of a TOWN's text: each test is named by the words of the document that it is about. */
public final class BoundsOfTexts extends Checks {
    private static final String[] KEPT = ("fact person cost knows row always tie price wish worth law if or and not"
        + " holds thinks voices apart tied").split(" ");
    private static final String PERSONS8 = lines("person * cost 0;", 8);
    private static final String FACTS8 = lines("fact *;", 8);
    private static final String ROWS12 = "fact x;" + lines("row r* x;", 12);
    private static final String TIES12 = PERSONS8 + lines("tie a * price 1;", 8).replace("tie a a price 1;", "")
        + "tie b c price 1;tie b d price 1;tie b e price 1;tie b f price 1;tie h g price 1;";
    private static final String WISHES12 = ROWS12 + "person p cost 0;person q cost 0;" + lines("wish p r* worth 1;", 12);
    // A FACT, two PERSONS, a ROW, to tell more of.
    private static final String FOUR = "fact a;person p cost 0;person q cost 0;row r a;";

    public static void main(String[] args) {
        begin(args);
        texts();
        lineForms();
        expressions();
        laws();
        tokens();
        numbersOfLines();
        units();
        faults();
        end();
    }

    private static void texts() {
        test("at most 1,600 bytes", BoundsOfTexts::fullText);
        test("(empty at first)", BoundsOfTexts::emptyText);
        test("town = {line}", BoundsOfTexts::manyLines);
    }

    private static void fullText() {
        String last = "fact b;";
        String text = "fact a;" + times(" ", 1586) + last;
        LieOfTwo x = new LieOfTwo();
        tape(x, text);
        due("about(7)", x.about(7), 1600);
        due("a line in the last bytes of 1600", x.town(), 4);
        faulty(times(" ", 1599) + "$", 1, 1599);
        faulty(times(" ", 1596) + "fact", 2, 1600);
        faulty("fact a" + times("\n", 1594), 2, 1600);
        faulty("fact " + times("a", 1595), 1, 5);
        faulty("law " + times("7", 1596), 1, 4);
        faulty(times(";", 1600), 2, 0);
        good(times(" ", 1600));
        faulty("fact a;person p cost 0 knows a" + times(" a", 785), 3, 31);
    }

    private static void emptyText() {
        LieOfTwo x = new LieOfTwo();
        due("about(9)", x.about(9), 1);
        due("about(7)", x.about(7), 0);
        due("town() of nothing", x.town(), 1);
        due("fault(0)", x.fault(0), 0);
        due("fault(1)", x.fault(1), -1);
        for (int what = 0; what < 9; what++) {
            due("about(" + what + ")", x.about(what), 0);
        }
        town(x, HOUSE);
        due("town() of nothing behind another", x.town(), 1);
        due("ROWS", x.about(2), 0);
    }

    private static void manyLines() {
        good("\n \n");
        LieOfTwo x = new LieOfTwo();
        due("not ahead of its NAME", town(x, "law voices;always z or not z;fact z;"), -1);
        due("any order", town(x, "law voices;person p cost 0;fact z;always z or not z;person q cost 0;tie p q price 0;"
            + "row r z;fact y;wish q r worth 0;row s y;"), 4);
        due("FACTS", x.about(0), 2);
        due("ROWS", x.about(2), 2);
    }

    private static void lineForms() {
        test("fact NAME ;", () -> cut("", "fact b ;"));
        test("person NAME cost N [knows NAME {NAME}] ;", BoundsOfTexts::personLine);
        test("row NAME e ;", () -> cut(FOUR, "row s not ( a if r or a and a ) ;"));
        test("always e ;", () -> cut(FOUR, "always not r ;"));
        test("tie NAME NAME price N ;", () -> cut(FOUR, "tie p q price 7 ;"));
        test("wish NAME NAME worth N ;", () -> cut(FOUR, "wish q r worth 7 ;"));
        test("law f ;", () -> cut(FOUR, "law 1 + ( voices - apart < tied or thinks ) = 2 ;"));
        test("one = not one | holds NAME one | thinks NAME one | unit", () -> cut(FOUR, "row s holds p thinks q not r ;"));
        test("2 one that can't stand there", BoundsOfTexts::brokenOff);
    }

    private static void brokenOff() {
        String[] broken = {"", "fact ", "person ", "person s ", "person s cost ", "person s cost 1 knows ", "row ", "row s ",
            "row s not ", "row s holds ", "row s thinks p ", "row s a if ", "row s a or ", "row s a and ", "row s (",
            "row s (a ", "always ", "always not ", "tie ", "tie p ", "tie p q ", "tie p q price ", "wish ", "wish p ",
            "wish p r ", "wish p r worth ", "law ", "law 1 + ", "law 1 - ", "law 1 < ", "law 1 > ", "law 1 = ", "law (",
            "law (1 ", "law 1 or "};
        for (String line : broken) {
            faultyBehind(FOUR + line, ";", 2);
        }
    }

    /** A line that ends ahead of any of its TOKENS, or has one of another sort there, is at fault at this place. */
    private static void cut(String ahead, String line) {
        good(ahead + line);
        String[] tokens = line.split(" ");
        String text = ahead + tokens[0] + " ";
        for (int i = 1; i < tokens.length; i++) {
            String token = tokens[i];
            faulty(text, 2, text.length());
            faultyBehind(text, "wish p r worth 7;", 2);
            faultyBehind(text, "fact", 2);
            if (token.matches("[0-9]+")) {
                faultyBehind(text, "x;", 2);
            } else if (token.matches("cost|price|worth")) {
                faultyBehind(text, "7;", 2);
                faultyBehind(text, "x 7;", 2);
            } else if (token.matches("[abpqrs]")) {
                faultyBehind(text, "7;", 2);
            }
            text += token + " ";
        }
    }

    private static void personLine() {
        cut("", "person s cost 3 ;");
        cut(FOUR + "fact b;", "person s cost 3 knows b a ;");
        good(FACTS8 + "person s cost 3 knows a b c d e f g h;");
        good(FACTS8 + "person s cost 3 knows h g f e d c b a;");
        good(FACTS8 + "person s cost 3 knows h;");
        faultyBehind(FOUR + "person s cost 3 knows a ", "knows a;", 2);
        faultyBehind(FOUR + "person s ", "knows a cost 3;", 2);
        faultyBehind(FACTS8 + "person s cost 3 knows a b c d e f g h ", "a;", 3);
        faultyBehind(FACTS8 + "person s cost 3 knows a b c d e f g h ", "i;", 5);
    }

    private static void expressions() {
        test("e = alt [if alt]", BoundsOfTexts::ifs);
        test("alt = both {or both}. both = one {and one}", BoundsOfTexts::orsAndAnds);
        test("one = not one | holds NAME one | thinks NAME one | unit", BoundsOfTexts::ones);
        test("unit = NAME | ( e )", BoundsOfTexts::unitForms);
    }

    /** What an e of a, b, c is in the eight WORLDS, the last first. */
    private static void table(String e, int so) {
        LieOfTwo x = of("fact a;fact b;fact c;person p cost 0 knows a;row r " + e + ";");
        for (int world = 0; world < 8; world++) {
            due(e + " in " + world, x.is(0, world), so >> world & 1);
        }
    }

    // As bits of the WORLDS 0 .. 7: a, b, c.
    private static final int A = 0b10101010;
    private static final int B = 0b11001100;
    private static final int C = 0b11110000;

    private static void ifs() {
        table("a if b", A | ~B);
        table("b if a", B | ~A);
        table("a or b if b and c", A | B | ~(B & C));
        table("a if b or c", A | ~(B | C));
        table("(a if b) if c", A | ~B | ~C);
        table("a if (b if c)", A | ~(B | ~C));
        faulty("fact a;row r a if a if a;", 2, 20);
        faulty("fact a;row r if a;", 2, 13);
        faulty("fact a;row r a or if a;", 2, 18);
        faulty("fact a;row r a if;", 2, 17);
    }

    private static void orsAndAnds() {
        table("a or b and c", A | B & C);
        table("a and b or c", A & B | C);
        table("(a or b) and c", (A | B) & C);
        table("a and (b or c)", A & (B | C));
        table("a or b or c", A | B | C);
        table("a and b and c", A & B & C);
        table("a", A);
        for (int one = 0; one < 8; one++) {
            for (int other = 0; other < 8; other++) {
                ofEight(one, other);
            }
        }
        faulty("fact a;row r a and or a;", 2, 19);
        faulty("fact a;row r or a;", 2, 13);
        faulty("fact a;row r a a;", 2, 15);
    }

    /** Two of eight FACTS, joined in each way. */
    private static void ofEight(int one, int other) {
        char a = (char) ('a' + one);
        char b = (char) ('a' + other);
        LieOfTwo x = of(lines("fact *;", 8) + "row ra " + a + " and " + b + ";row ro " + a + " or " + b + ";row ri " + a + " if " + b
            + ";row rn not (" + a + " or " + b + ");");
        for (int world : new int[] {0, 1 << one, 1 << other, 1 << one | 1 << other, 255, 255 - (1 << one), 255 - (1 << other)}) {
            boolean isA = (world >> one & 1) != 0;
            boolean isB = (world >> other & 1) != 0;
            due("and", x.is(0, world), isA && isB ? 1 : 0);
            due("or", x.is(1, world), isA || isB ? 1 : 0);
            due("if", x.is(2, world), isA || !isB ? 1 : 0);
            due("not", x.is(3, world), isA || isB ? 0 : 1);
        }
    }

    private static void ones() {
        table("not a and b", ~A & B);
        table("not a or b", ~A | B);
        table("not (a or b)", ~(A | B));
        table("not a if b", ~A | ~B);
        table("not not a", A);
        table("holds p a and b", A & B);
        table("holds p b or a", A);
        table("thinks p b and c", C);
        table("holds p (a and b)", 0);
        table("thinks p not a", ~A);
        table("not thinks p a", ~A);
        table("not holds p b", 255);
        table("holds p thinks p b", 255);
        faulty("fact a;row r a not a;", 2, 15);
        faulty("fact a;person p cost 0;row r holds not p a;", 2, 35);
    }

    private static void unitForms() {
        table("(a)", A);
        table("((a) if (b))", A | ~B);
        table("(a if b) and c", (A | ~B) & C);
        faulty("fact a;row r ();", 2, 14);
        faulty("fact a;row r (a;", 2, 15);
        faulty("fact a;row r a);", 2, 14);
        faulty("fact a;row r ((a);", 2, 17);
        faulty("fact a;row r 7;", 2, 13);
        faulty("fact a;row r a < a;", 2, 15);
        faulty("fact a;row r voices;", 2, 13);
    }

    private static void laws() {
        test("any = sum [(< | > | =) sum]", BoundsOfTexts::relations);
        test("sum = part {(+ | -) part}", BoundsOfTexts::sums);
        test("f = any {or any}", BoundsOfTexts::anyForms);
        test("part = N | voices | apart | tied | thinks | ( f )", BoundsOfTexts::parts);
    }

    /** What an f is, said by one alone, together, surely. */
    private static void valued(String f, int value) {
        String plain = value < 0 ? "0 - " + -value : "" + value;
        for (int off = -1; off <= 1; off++) {
            LieOfTwo x = of("person p cost 0;law (" + f + ") = " + plain + " + " + (off + 1) + " - 1;");
            due(f + " is " + (value + off), x.lies(1, false, true), off == 0 ? 1 : 0);
        }
    }

    private static void relations() {
        valued("1 < 2", 1);
        valued("2 < 2", 0);
        valued("3 < 2", 0);
        valued("3 > 2", 1);
        valued("2 > 2", 0);
        valued("1 > 2", 0);
        valued("2 = 2", 1);
        valued("1 = 2", 0);
        valued("1 + 2 = 4 - 1", 1);
        valued("0 - 1 < 0", 1);
        valued("(1 < 2) < 3", 1);
        valued("3 > (2 > 1)", 1);
        faulty("law 1 < 2 < 3;", 2, 10);
        faulty("law 1 = 2 > 3;", 2, 10);
        faulty("law 1 < > 3;", 2, 8);
        faulty("law < 3;", 2, 4);
        faulty("law 1 <= 3;", 2, 7);
    }

    private static void sums() {
        valued("5 - 2 - 1", 2);
        valued("5 - (2 - 1)", 4);
        valued("5 - 2 + 1", 4);
        valued("0 - 9999", -9999);
        valued("9999 + 9999 - 9999", 9999);
        valued("0" + times(" + 9999", 35) + times(" - 9999", 35), 0);
        faulty("law - 1;", 2, 4);
        faulty("law 1 + - 1;", 2, 8);
        faulty("law 1 1;", 2, 6);
    }

    private static void anyForms() {
        valued("0 or 0", 0);
        valued("0 or 7", 1);
        valued("7 or 0", 1);
        valued("7 or 7", 1);
        valued("(0 - 7) or 0", 1);
        valued("0 or 0 or 0", 0);
        valued("0 or 0 or 1", 1);
        valued("1 or 1 = 0", 1);
        valued("0 = 0 or 0", 1);
        faulty("law or 1;", 2, 4);
        faulty("law 1 or;", 2, 8);
        faulty("law 1 if 1;", 2, 6);
        faulty("law 1 and 1;", 2, 6);
        faulty("law not 1;", 2, 4);
    }

    private static void parts() {
        valued("voices", 1);
        valued("apart", 0);
        valued("tied", 0);
        valued("thinks", 0);
        valued("0000", 0);
        valued("0010", 10);
        valued("((7))", 7);
        faulty("law ();", 2, 5);
        faulty("law (1;", 2, 6);
        faulty("law 1);", 2, 5);
        faulty("fact a;law a;", 2, 11);
        faulty("law holds;", 2, 4);
    }

    private static void tokens() {
        test("words (a .. z, 8 at most)", BoundsOfTexts::words);
        test("N (1 to 4 digits)", BoundsOfTexts::numbers);
        test("signs ; ( ) < > = + -", BoundsOfTexts::singleBytes);
        test("blanks (32, 10) part them or not", BoundsOfTexts::blanks);
        test("each is as long as can be", BoundsOfTexts::longest);
        test("no letter directly behind an N", BoundsOfTexts::letterBehindNumber);
        test("what is none of these, a longer word, more digits, an N with a letter behind it: 1 at its first byte",
            BoundsOfTexts::noTokens);
        test("Words that stand for themselves here are no NAMES", BoundsOfTexts::keptWords);
    }

    private static void words() {
        good("fact a;fact z;row r a and z;");
        good("fact abcdefgh;row r abcdefgh;");
        good("fact abcdefgh;fact abcdefgi;fact abcdefg;fact zbcdefgh;");
        faulty("fact abcdefgh;fact abcdefgh;", 3, 19);
        good("fact a;fact aa;fact aaa;fact aaaa;fact aaaaaaaa;");
        good("fact zzzzzzzz;fact zzzzzzz;fact azzzzzzz;");
        good("fact a;fact b;fact aa;fact bb;fact ab;fact ba;fact aaa;fact bbb;");
        good("fact z;fact zz;fact az;fact za;fact y;fact yz;fact zy;fact zzz;");
        faulty("fact abcdefghi;", 1, 5);
        // longer words whose ends or beginnings are words of their own
        faulty("fact abcdefgh;row r abcdefghi;", 1, 20);
        faulty("fact abcdefgh;row r aabcdefgh;", 1, 20);
        faulty("aaaaafact a;", 1, 0);
        faulty("factfactf a;", 1, 0);
        faulty(times("z", 300) + "fact a;", 1, 0);
        for (int n = 9; n < 80; n++) {
            faulty(times("a", n) + "fact b;", 1, 0);
        }
        good("fact facts;fact fac;fact rows;fact laws;fact hold;fact think;fact voice;fact tie" + "s;");
    }

    private static void numbers() {
        good("person p cost 0;");
        good("person p cost 00;");
        good("person p cost 0099;");
        good("law 9999;");
        good("law 0000;");
        faulty("law 00000;", 1, 4);
        faulty("law 12345;", 1, 4);
        faulty("person p cost 00099;", 1, 14);
        // digits that would wrap around to 1
        faulty("person p cost 4294967297;", 1, 14);
        faulty("person p cost 18446744073709551617;", 1, 14);
        faulty("person p cost " + times("0", 60) + "1;", 1, 14);
    }

    private static void singleBytes() {
        for (int b = 0; b < 256; b++) {
            String one = String.valueOf((char) b);
            boolean letter = b >= 'a' && b <= 'z';
            boolean blank = b == 32 || b == 10;
            boolean sign = b != 0 && ";()<>=+-".indexOf((char) b) >= 0;
            boolean digit = b >= '0' && b <= '9';
            if (blank) {
                good(one);
                good("fact a" + one + ";");
            } else if (letter) {
                faulty(one, 2, 0);
                good("fact a" + one + ";");
            } else {
                faulty(one, sign || digit ? 2 : 1, 0);
                faulty("fact a" + one + ";", sign || digit ? 2 : 1, b == ';' ? 7 : 6);
            }
        }
    }

    private static void blanks() {
        good("fact a;fact b;");
        good(" \n fact\n\na \n;\n\n fact  b\n;\n");
        good("law(voices>1)or(apart+tied=2);");
        good("law ( voices > 1 ) or ( apart + tied = 2 ) ;");
        good("person p cost7;");
        faulty("fact\ta;", 1, 4);
        faulty("fact a;\r\n", 1, 7);
        faulty("fact\u000ba;", 1, 4);
        faulty("fact\u00a0a;", 1, 4);
        faulty("fact a\0;", 1, 6);
    }

    private static void longest() {
        faulty("facta;", 2, 0);
        faulty("fact a;row ra a;row rb not a;row rc nota;", 5, 36);
        LieOfTwo x = of("fact a;fact b;fact ab;row r ab;");
        due("one NAME", x.is(0, 3), 0);
        due("one NAME", x.is(0, 4), 1);
        x = of("person p cost 1;law 12 = 1 + 11;");
        due("one number", x.lies(1, false, true), 1);
        faulty("person p cost 1 2;", 2, 16);
        good("fact orr;row andd orr;");
    }

    private static void letterBehindNumber() {
        faulty("person p cost 7knows", 1, 14);
        faulty("person p cost 7 knows", 2, 21);
        faulty("law 7a;", 1, 4);
        faulty("law 7z;", 1, 4);
        faulty("law 9999a;", 1, 4);
        faulty("7fact a;", 1, 0);
        good("law 7;");
        good("law 7\n;");
        // a letter behind the text's end is not there
        LieOfTwo x = new LieOfTwo();
        tape(x, "law 7abc");
        x.end(5);
        due("the end", x.town(), -1);
        due("the end", x.fault(0), 2);
        due("the end", x.fault(1), 5);
        tape(x, "fact abcdefghijklmnopq;");
        x.end(13);
        tape(x, ";");
        due("8 letters, the others are gone", x.town(), 2);
        tape(x, "law 12345;");
        x.end(8);
        tape(x, ";");
        due("4 digits, the fifth is gone", x.town(), 1);
        good("law(7)+7-7<7;");
        // a digit behind a letter parts them
        faulty("fact a7;", 2, 6);
        good("law voices+7;");
    }

    private static void noTokens() {
        faulty("fact a;\nrow r A;", 1, 14);
        faulty("  $", 1, 2);
        faulty("fact abcdefghijkl", 1, 5);
        faulty("law 1 + 12345678", 1, 8);
        faulty("law 1 + 1234a", 1, 8);
        faulty("law 1 + 12345a", 1, 8);
        faulty("fact a_b;", 1, 6);
        faulty("fact a,b;", 1, 6);
        faulty("fact a*;", 1, 6);
        faulty("fact a/;", 1, 6);
        faulty("fact a:;", 1, 6);
        faulty("fact a?;", 1, 6);
        faulty("fact a`;", 1, 6);
        faulty("fact a{;", 1, 6);
        faulty("fact a!;", 1, 6);
    }

    private static void keptWords() {
        for (String word : KEPT) {
            faultyBehind("fact ", word + ";", 2);
            faultyBehind("person ", word + " cost 0;", 2);
            faultyBehind("fact a;row ", word + " a;", 2);
            faultyBehind("fact a;person p cost 0 knows ", word + ";", 2);
            faultyBehind(FOUR + "tie ", word + " p price 1;", 2);
            faultyBehind(FOUR + "tie p ", word + " price 1;", 2);
            faultyBehind(FOUR + "wish ", word + " r worth 1;", 2);
            faultyBehind(FOUR + "wish p ", word + " worth 1;", 2);
            faultyBehind(FOUR + "row s holds ", word + " a;", 2);
            faultyBehind(FOUR + "row s thinks ", word + " a;", 2);
            boolean begins = word.equals("not") || word.equals("holds") || word.equals("thinks");
            faulty(FOUR + "row s " + word + ";", 2, FOUR.length() + 6 + (begins ? word.length() : 0));
        }
        for (String free : "town line e alt both one unit f any sum part n name facts persons told none base".split(" ")) {
            good("fact " + free + ";person " + free + " cost 0 knows " + free + ";row x holds " + free + " " + free + ";");
        }
    }

    private static void numbersOfLines() {
        test("At most 8 FACTS", () -> atMost(FACTS8, "fact", " i;", 0, 8));
        test("8 PERSONS", () -> atMost(PERSONS8, "person", " i cost 0;", 1, 8));
        test("(cost 0 .. 99;", () -> smallNumber("person s cost "));
        test("knows FACTS told ahead)", BoundsOfTexts::knownToldAhead);
        test("12 ROWS", () -> atMost(ROWS12, "row", " rm x;", 2, 12));
        test("(NAME in e: a FACT or a ROW, told ahead)", BoundsOfTexts::rowsToldAhead);
        test("4 always", BoundsOfTexts::fourAlways);
        test("(without holds, thinks, and ROWS that have any)", BoundsOfTexts::bareAlways);
        test("12 ties", () -> atMost(TIES12, "tie", " b h price 1;", 3, 12));
        test("(of two PERSONS, either way, once; price 0 .. 99)", BoundsOfTexts::tiesOnce);
        test("12 wishes", () -> atMost(WISHES12, "wish", " q ra worth 1;", 4, 12));
        test("(of a PERSON, a ROW, once; worth 0 .. 99)", BoundsOfTexts::wishesOnce);
        test("numbered as told", BoundsOfTexts::numberedAsTold);
        test("law once (voices > 1, if it is not told)", BoundsOfTexts::lawOnce);
    }

    /** All places are taken by a text: one line more is at fault at its first word, however it goes on. */
    private static void atMost(String full, String word, String rest, int what, int count) {
        LieOfTwo x = of(full);
        due("all places are taken", x.about(what), count);
        faultyBehind(full, word + rest, 2);
        faultyBehind(full, word, 2);
        faultyBehind(full, word + " 7 $", 2);
        LieOfTwo y = of(HOUSE);
        due("one too many", town(y, full + word + rest), -1);
        due("as many as can be behind it", town(y, full) > 0, true);
        due("all places are taken", y.about(what), count);
    }

    private static void smallNumber(String ahead) {
        String told = FOUR + ahead;
        good(told + "0;");
        good(told + "1;");
        good(told + "99;");
        good(told + "0099;");
        faultyBehind(told, "100;", 4);
        faultyBehind(told, "0100;", 4);
        faultyBehind(told, "999;", 4);
        faultyBehind(told, "9999;", 4);
        faultyBehind(told, "10000;", 1);
        faultyBehind(told, "-1;", 2);
        faultyBehind(told, ";", 2);
    }

    private static void knownToldAhead() {
        good("fact a;person p cost 0 knows a;fact b;person q cost 0 knows a b;");
        faultyBehind("person p cost 0 knows ", "a;fact a;", 5);
        faultyBehind("fact a;person p cost 0 knows a ", "b;fact b;", 5);
        faultyBehind(FOUR + "person s cost 0 knows ", "r;", 5);
        faultyBehind(FOUR + "person s cost 0 knows ", "p;", 5);
        faultyBehind("fact a;person p cost 0 knows ", "p;", 5);
    }

    private static void rowsToldAhead() {
        good("fact a;row r a;row s r and a;");
        faultyBehind("fact a;row r ", "s;row s a;", 5);
        faultyBehind("fact a;row r ", "r;", 5);
        faultyBehind("row r ", "a;fact a;", 5);
        faultyBehind(FOUR + "row s ", "p;", 5);
        faultyBehind(FOUR + "row s holds p ", "q;", 5);
        faultyBehind(FOUR + "row s not (a or ", "b);", 5);
        // a PERSON may have a FACT's NAME
        good("fact a;person a cost 0;row r a;row s holds a r;");
        faultyBehind("person a cost 0;row r ", "a;", 5);
    }

    private static void fourAlways() {
        String facts = "fact a;fact b;fact c;fact d;";
        LieOfTwo x = of(facts + "always a;always b;always c;always d;");
        due("each binds", x.about(9), 1);
        due("each binds", x.world(0, 0), 15);
        due("three bind", of(facts + "always a;always b;always c;").about(9), 2);
        faultyBehind(facts + times("always a;", 4), "always a;", 2);
        faultyBehind(facts + times("always a;", 4), "always $", 2);
        LieOfTwo y = new LieOfTwo();
        due("five", town(y, facts + times("always a;", 5)), -1);
        due("four behind it", town(y, facts + times("always a;", 4)), 8);
    }

    private static void bareAlways() {
        good(FOUR + "always r or not (a if r);");
        faultyBehind(FOUR + "always ", "holds p a;", 2);
        faultyBehind(FOUR + "always ", "thinks p a;", 2);
        faultyBehind(FOUR + "always not (a and ", "holds p a);", 2);
        faultyBehind(FOUR + "always ", "holds", 2);
        faultyBehind(FOUR + "row s holds p a;always ", "s;", 5);
        faultyBehind(FOUR + "row s thinks p a;always ", "s;", 5);
        faultyBehind(FOUR + "row s a or not thinks p a;always a or ", "s;", 5);
        // by way of another ROW
        faultyBehind(FOUR + "row s holds p a;row t s;row u t and a;always ", "u;", 5);
        good(FOUR + "row s holds p a;row t r;always t;");
        good(FOUR + "always a;row s holds p a;row t thinks q s;");
        // a ROW told behind one that holds does not hold because of it
        good(FOUR + "row s holds p a;row t a;always t;");
        faultyBehind(FOUR + "row t a;row s holds p a;always t or ", "s;", 5);
    }

    private static void tiesOnce() {
        smallNumber("tie p q price ");
        good(FOUR + "person s cost 0;tie p q price 1;tie p s price 1;tie s q price 1;");
        faultyBehind(FOUR + "tie p q price 1;tie p ", "q price 1;", 3);
        faultyBehind(FOUR + "tie p q price 1;tie q ", "p price 1;", 3);
        faultyBehind(FOUR + "tie p ", "p price 1;", 3);
        faultyBehind(FOUR + "tie q ", "q price 1;", 3);
        faultyBehind(FOUR + "tie p ", "a price 1;", 5);
        faultyBehind(FOUR + "tie ", "r p price 1;", 5);
        faultyBehind(FOUR + "tie p ", "s price 1;person s cost 0;", 5);
        // of one with more ties, be it named first or second
        String three = FOUR + "person s cost 0;tie q p price 1;tie s p price 1;";
        faultyBehind(three + "tie p ", "q price 1;", 3);
        faultyBehind(three + "tie p ", "s price 1;", 3);
        faultyBehind(three + "tie q ", "p price 1;", 3);
        good(three + "tie q s price 1;");
        faultyBehind(FOUR + "person s cost 0;tie p q price 1;tie p s price 1;tie p ", "q price 1;", 3);
        faultyBehind(FOUR + "person s cost 0;tie p q price 1;tie p s price 1;tie q ", "p price 1;", 3);
        // the ties of a TOWN do not last into another
        LieOfTwo x = of(FOUR + "tie p q price 1;");
        due("another TOWN", town(x, FOUR + "tie p q price 1;"), 2);
    }

    private static void wishesOnce() {
        smallNumber("wish p r worth ");
        good(FOUR + "row s a;wish p r worth 1;wish q r worth 1;wish p s worth 1;");
        faultyBehind(FOUR + "wish p r worth 1;wish p ", "r worth 2;", 3);
        faultyBehind(FOUR + "wish p r worth 0;wish p ", "r worth 0;", 3);
        faultyBehind(FOUR + "wish p ", "a worth 1;", 5);
        faultyBehind(FOUR + "wish p ", "q worth 1;", 5);
        faultyBehind(FOUR + "wish ", "r r worth 1;", 5);
        faultyBehind(FOUR + "wish p ", "s worth 1;row s a;", 5);
        LieOfTwo x = of(FOUR + "wish p r worth 1;");
        due("another TOWN", town(x, FOUR + "wish p r worth 1;"), 2);
    }

    private static void numberedAsTold() {
        LieOfTwo x = of("fact z;person y cost 0;row r z;fact a;person b cost 0 knows a;row q a;person c cost 0 knows z;"
            + "tie c y price 0;tie b y price 5;wish c q worth 3;wish y q worth 4;wish b q worth 9;law tied;");
        due("the first FACT", x.is(0, 1), 1);
        due("the second FACT", x.is(1, 2), 1);
        due("the first ROW", x.is(0, 2), 0);
        due("the first PERSON", x.answers(0, 1, 2), 2);
        due("the second PERSON", x.answers(1, 1, 2), 1);
        due("the third PERSON", x.answers(2, 0, 1), 1);
        due("the first tie", x.rest(0, 1), 1);
        due("its GAIN", x.rest(0, 0), 7);
        due("those of a tie", x.lies(5, false, true), 1);
        due("those of the other", x.lies(3, false, true), 1);
        due("those of none", x.lies(6, false, true), 0);
    }

    private static void lawOnce() {
        faultyBehind("law 1;", "law 1;", 2);
        faultyBehind("law 1;fact a;", "law $", 2);
        LieOfTwo x = of(FOUR);
        due("one", x.lies(1, false, true), 0);
        due("two", x.lies(3, false, true), 1);
        due("one apart", x.lies(1, true, false), 0);
        due("two apart", x.lies(3, true, false), 1);
        due("units", x.about(8), 1);
        town(x, FOUR + "law voices < 2;");
        due("one", x.lies(1, false, true), 1);
        due("two", x.lies(3, false, true), 0);
        due("a fault", town(x, FOUR + "law 0;law"), -1);
        due("the law stays", x.lies(1, false, true), 1);
        town(x, FOUR);
        due("one, not told again", x.lies(1, false, true), 0);
        due("two, not told again", x.lies(3, false, true), 1);
        due("told again", town(x, FOUR + "law 0;"), 2);
        due("two", x.lies(3, false, true), 0);
        // none of the laws ahead matters
        for (int again = 0; again < 4; again++) {
            town(x, FOUR + "law 1;");
            due("1", x.lies(1, false, true), 1);
            town(x, FOUR + times("law 0;", again % 2));
            due("not told, or 0", x.lies(1, false, true), 0);
            town(x, FOUR + "law 0;");
            due("0", x.lies(3, false, true), 0);
        }
        // nor what is told ahead of it in the same text
        x = of(FOUR + "row s thinks p a;row t holds q a or a;always r or not a;law voices - 1;");
        due("one", x.lies(1, false, false), 0);
        due("two", x.lies(3, false, false), 1);
    }

    private static void units() {
        test("80 units in all (FACTS, ROWS and ( of e, parts of f)", BoundsOfTexts::eightyUnits);
        test("a unit or part in ( ), or a one behind not, holds, thinks, within 6 others at most", BoundsOfTexts::depth);
    }

    private static void eightyUnits() {
        String head = "fact a;person p cost 0;row s a;";
        due("all sorts", of(head + "row t not (a if holds p s) or thinks p (a);always not a;law (voices) + 1 < 2;").about(8), 11);
        String e = head + "row r a" + times(" or a", 78);
        due("80 in a ROW", of(e + ";").about(8), 80);
        faultyBehind(e + " or ", "a;", 2);
        faultyBehind(e + " or ", "(a);", 2);
        faultyBehind(e + " or not ", "a;", 2);
        faultyBehind(e + " or holds p ", "s;", 2);
        faultyBehind(e + ";row x ", "a;", 2);
        faultyBehind(e + ";always ", "a;", 2);
        faultyBehind(e + ";law ", "1;", 2);
        String all = "fact a;row s (a);row r a" + times(" or a", 37) + ";always a" + times(" and a", 9) + ";law (1)";
        due("80 of all sorts", of(all + times(" + 1", 28) + ";").about(8), 80);
        faultyBehind(all + times(" + 1", 28) + " + ", "1;", 2);
        faultyBehind(all + times(" + 1", 28) + " + ", "(1);", 2);
        String opened = "fact a;row r a" + times(" or a", 78) + " or ";
        faultyBehind(opened + "(", "a);", 2);
        String lawful = "law 1" + times(" + 1", 78) + " + ";
        good(lawful + "1;");
        faultyBehind(lawful + "(", "1);", 2);
        // the count begins anew with each text
        LieOfTwo x = of(e + ";");
        due("a fault in another", town(x, e), -1);
        due("units", x.about(8), 80);
        for (int again = 0; again < 5; again++) {
            due("80 again", town(x, e + ";"), 2);
        }
        // as much as can be told of 80 units, again and again
        String most = "fact a;fact b;row r " + times(times("not ", 7) + "a or ", 46) + times("not ", 7) + "b;";
        x = new LieOfTwo();
        for (int again = 0; again < 5; again++) {
            due("a long one", town(x, most), 4);
            due("a long one", x.is(0, 0), 1);
            due("a long one", x.is(0, 1), 1);
            due("a long one", x.is(0, 2), 1);
            due("a long one", x.is(0, 3), 0);
        }
        // as much as can wait for what stands in ( )
        x = of("fact a;fact b;fact c;fact d;row r " + times("a if b or c and (", 7) + "a if b or c and d" + times(")", 7) + ";");
        due("all that can wait", x.is(0, 4), 0);
        due("all that can wait", x.is(0, 12), 1);
        x = of("person p cost 0;law " + times("0 or 0 = 0 + (", 7) + "0 or 0 = 0 + apart" + times(")", 7) + ";");
        due("all that can wait", x.lies(1, true, true), 1);
        due("all that can wait", x.lies(1, false, true), 0);
    }

    private static void depth() {
        String head = "fact a;person p cost 0;row r ";
        for (String way : new String[] {"not ", "holds p ", "thinks p ", "("}) {
            String close = way.equals("(") ? ")" : "";
            good(head + times(way, 7) + "a" + times(close, 7) + ";");
            faultyBehind(head + times(way, 7), way + "a" + times(close, 8) + ";", 2);
            faultyBehind(head + times(way, 7), way + "$", 2);
            mixed(head + "not (holds p thinks p not (", way, close + "));");
        }
        good("law " + times("(", 7) + "1" + times(")", 7) + ";");
        faultyBehind("law " + times("(", 7), "(1))))))));", 2);
        faultyBehind("law 1 + " + times("(1 + ", 7), "(", 2);
        // beside each other they are not within each other
        good(head + "(((((((a))))))) and (((((((a))))))) or not not not not not not not a if not (not (not (not a)));");
        good("law (((((((1))))))) + (((((((1)))))));");
        good(head + times("(", 7) + "a and a or a if a" + times(")", 7) + ";");
        good("fact a;row r " + times("not ", 7) + "a;row s " + times("not ", 7) + "r;always " + times("(", 7) + "s" + times(")", 7) + ";");
        faultyBehind("fact a;always " + times("(", 7), "(a));", 2);
        faultyBehind("fact a;always " + times("not ", 7), "not a;", 2);
    }

    /** In six of mixed sorts a seventh may stand, an eighth in it may not. */
    private static void mixed(String six, String seventh, String close) {
        good(six + seventh + "a" + close);
        for (String eighth : new String[] {"not ", "holds p ", "thinks p ", "("}) {
            faultyBehind(six + seventh, eighth + "a", 2);
        }
    }

    private static void faults() {
        test("the first by its place", BoundsOfTexts::firstByPlace);
        test("(bytes from 0; the end: the text's length)", BoundsOfTexts::places);
        test("at one place the least", BoundsOfTexts::leastAtPlace);
        test("one of a sort too many, law a second time: at the line's first word", BoundsOfTexts::tooManyAtFirstWord);
        test("an 81st unit, what is within 7 others: at its first TOKEN, or the not, holds, thinks", BoundsOfTexts::unitPlaces);
        test("holds, thinks in always: there", BoundsOfTexts::bareAlways);
        test("(FACTS and ROWS together; PERSONS;", BoundsOfTexts::namesToldAlready);
        test("a FACT that one knows twice", BoundsOfTexts::knownTwice);
        test("a tie's second NAME like its first, or both tied already", BoundsOfTexts::tiesOnce);
        test("a wish's ROW wished by that one already", BoundsOfTexts::wishesOnce);
        test("4 a number that can't be", BoundsOfTexts::numbersThatCantBe);
        test("5 a NAME that is none of the kind that must stand there", BoundsOfTexts::rowsToldAhead);
        test("told ahead; a ROW with holds, thinks in always", BoundsOfTexts::bareAlways);
    }

    private static void firstByPlace() {
        faulty("fact a;fact a;$", 3, 12);
        faulty("fact a;$;fact a;", 1, 7);
        faulty("fact a;row r b;fact", 5, 13);
        faulty("person p cost 100;row r b;", 4, 14);
        faulty("row r b;person p cost 100;", 5, 6);
        faulty("fact a fact a;", 2, 7);
        faulty(FOUR + "always holds z (", 2, FOUR.length() + 7);
        faulty("fact a;row a;", 3, 11);
        faulty("law 1 law 12345;", 2, 6);
        // nothing behind the first one matters, the 9th FACT neither
        faulty("fact a;row r $;" + FACTS8, 1, 13);
    }

    private static void places() {
        faulty(";", 2, 0);
        faulty(" \n ;", 2, 3);
        faulty("fact", 2, 4);
        faulty("fact ", 2, 5);
        faulty("fact\n\n  ", 2, 8);
        faulty("fact a", 2, 6);
        faulty("fact a;row r (a ", 2, 16);
        faulty("fact a;person p cost 1 knows ", 2, 29);
        faulty("fact a;\n\nfact a;", 3, 14);
        LieOfTwo x = of("fact a;");
        due("a fault", town(x, "fact"), -1);
        due("the end", x.fault(1), 4);
        due("another", town(x, "$"), -1);
        due("the first byte", x.fault(1), 0);
    }

    private static void leastAtPlace() {
        // a number that is too long is no TOKEN, rather than one that can't be or can't stand there
        faulty("person p cost 10000;", 1, 14);
        faulty("fact 10000;", 1, 5);
        faulty("fact a;row r abcdefghi;", 1, 13);
        String eighty = "fact a;person p cost 0;row r a" + times(" or a", 79);
        faultyBehind(eighty + " or ", "b;", 2);
        faultyBehind(eighty + " or ", "abcdefghi;", 1);
        faultyBehind(eighty + " or ", "$;", 1);
        faultyBehind(eighty + ";always ", "r;", 2);
        String holding = FOUR + "row s holds p a" + times(" or a", 78) + ";always ";
        faultyBehind(holding, "s;", 2);
        faultyBehind(FOUR + "row s holds p a;always ", "s;", 5);
        // a NAME told already that is of the wrong kind, too, is told already
        faultyBehind("fact a;row ", "a b;", 3);
        // a word that can't stand there, be it told or not
        faultyBehind("fact a;fact b ", "a;", 2);
        faultyBehind(FOUR + "tie p q ", "p price 1;", 2);
        faultyBehind(FOUR + "tie p q price 1 ", "100;", 2);
    }

    private static void tooManyAtFirstWord() {
        faultyBehind(FACTS8, "fact a;", 2);
        faultyBehind(FACTS8, "fact abcdefghi;", 2);
        faultyBehind(PERSONS8, "person a cost 0;", 2);
        faultyBehind(ROWS12, "row ra x;", 2);
        faultyBehind("fact a;" + times("always a;", 4), "always b;", 2);
        faultyBehind(TIES12, "tie a b price 1;", 2);
        faultyBehind(TIES12, "tie a a price 100;", 2);
        faultyBehind(WISHES12, "wish p ra worth 1;", 2);
        faultyBehind("law 1;", "law", 2);
        faultyBehind("law 1;\n ", "law 2;", 2);
        // the other sorts still have room
        good(FACTS8 + "person a cost 0 knows a;row r a;always a;");
        good(TIES12 + "fact a;row r a;wish a r worth 1;law 1;");
    }

    private static void unitPlaces() {
        String full = "fact a;person p cost 0;row r a" + times(" and a", 79);
        faultyBehind(full + " and not not ", "a;", 2);
        faultyBehind(full + " and thinks p ", "(a);", 2);
        faultyBehind(full + " if ", "a;", 2);
        // the not itself is within seven others, ahead of the unit
        String nots = "fact a;row r a" + times(" and a", 79) + " and " + times("not ", 7);
        faultyBehind(nots, "not a;", 2);
        faultyBehind(nots, "a;", 2);
        String head = "fact a;person p cost 0;row r " + times("(", 7);
        faultyBehind(head, "(", 2);
        faultyBehind(head, "holds q a;", 2);
        faultyBehind(head, "thinks $", 2);
        faultyBehind(head, "not", 2);
        faultyBehind(head + "a or ", "not a;", 2);
        faultyBehind(head + "a) or not ", "not a;", 2);
    }

    private static void namesToldAlready() {
        faultyBehind("fact a;fact ", "a;", 3);
        faultyBehind("fact a;row ", "a a;", 3);
        faultyBehind(FOUR + "fact ", "r;", 3);
        faultyBehind(FOUR + "row ", "r a;", 3);
        faultyBehind(FOUR + "person ", "p cost 0;", 3);
        faultyBehind(FOUR + "person ", "q", 3);
        faultyBehind(lines("fact *;", 7) + "fact ", "a;", 3);
        faultyBehind(lines("fact *;", 7) + "fact ", "g;", 3);
        faultyBehind(lines("person * cost 0;", 7) + "person ", "g cost 0;", 3);
        faultyBehind("fact x;" + lines("row r* x;", 11) + "row ", "rk x;", 3);
        good("fact a;person a cost 0;row r a;person r cost 0;person b cost 0;fact b;");
        // a TOWN at fault, or an older one, has told nothing
        LieOfTwo x = of("fact a;fact b;person p cost 0;");
        due("a fault", town(x, "fact c;row d c;person e cost 0;fact c;"), -1);
        due("the NAMES again", town(x, "fact c;row d c;person e cost 0;fact a;row b a;person p cost 0;"), 4);
        due("a FACT of an older one", town(x, "row r c;"), -1);
        due("its fault", x.fault(0), 5);
    }

    private static void knownTwice() {
        faultyBehind("fact a;person p cost 0 knows a ", "a;", 3);
        faultyBehind("fact a;fact b;person p cost 0 knows a b ", "a;", 3);
        faultyBehind(FACTS8 + "person p cost 0 knows a b c d e f g h ", "h;", 3);
        faultyBehind(FACTS8 + "person p cost 0 knows h ", "h;", 3);
        good("fact a;person p cost 0 knows a;person q cost 0 knows a;");
    }

    private static void numbersThatCantBe() {
        smallNumber("person s cost ");
        smallNumber("tie p q price ");
        smallNumber("wish p r worth ");
        good("law 100;");
        good("law 9999 > 99;");
    }
}
