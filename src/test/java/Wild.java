import java.nio.charset.StandardCharsets;
import java.util.List;

/** Each argument of each call by itself takes numbers of all sizes, such as wrap around: LieOfTwo and Naive answer alike. */
public final class Wild {
    private static final int[] NUMBERS = {Integer.MIN_VALUE, Integer.MIN_VALUE + 1, -65536, -1601, -1000, -257, -256, -255,
        -64, -41, -33, -32, -31, -16, -9, -8, -3, -2, -1, 0, 1, 2, 3, 4, 5, 6, 7, 8, 9, 10, 11, 12, 13, 15, 16, 17, 30, 31, 32,
        33, 39, 40, 41, 63, 64, 65, 79, 80, 81, 96, 97, 127, 128, 129, 254, 255, 256, 257, 511, 512, 999, 1000, 1001, 1599,
        1600, 1601, 65535, 65536, 99999, 100000, 100001, 1 << 24, 1 << 30, 1 << 30 | 1, Integer.MAX_VALUE - 1000,
        Integer.MAX_VALUE - 1, Integer.MAX_VALUE};

    private static final String EIGHT = "fact a;fact b;fact c;fact d;fact e;fact f;fact g;fact h;"
        + "person pa cost 5 knows a b;person pb cost 4 knows c d;person pc cost 3 knows e f;person pd cost 9 knows g h;"
        + "person pe cost 3 knows a h;person pf cost 2;person pg cost 1 knows a b c d;person ph cost 0 knows h;"
        + "row ra a;row rb b and c;row rc h or a;row rd holds pa a;row re thinks pb (c and e);row rf not g;row rg g if h;"
        + "row rh ra and rb;row ri holds pe holds ph h;row rj d or e or f;row rk a and b and c and d;row rl a or not a;"
        + "always a or b or h;always not c or not e;"
        + "tie pa pb price 1;tie pb pc price 2;tie pc pd price 3;tie pd pe price 0;tie pe pf price 1;tie pf pg price 5;"
        + "tie pg ph price 1;tie ph pa price 2;tie pa pe price 0;tie pb pf price 4;tie pc pg price 9;tie pd ph price 1;"
        + "wish pa ra worth 4;wish pb ra worth 5;wish pc ra worth 6;wish pd ra worth 2;wish pe ra worth 9;wish pf ra worth 8;"
        + "wish pg ra worth 3;wish ph ra worth 7;wish pa rk worth 1;wish pe rk worth 6;wish pg rk worth 3;wish ph rk worth 5;";

    // The towns: none at all, a small one, one whose BASE is empty, one with all places taken.
    private static final String[] TOWNS = {"",
        "fact a;person p cost 1 knows a;person q cost 0;row r a;row n not a;tie p q price 1;wish p r worth 1;wish q r worth 2;",
        "fact a;person p cost 1 knows a;row r a;always a;always not a;",
        EIGHT + "law voices - 1 < tied + thinks;"};
    // How many arguments each call takes, the TIME with them.
    private static final List<String> CALLS = List.of("is 2", "answers 3", "lies 1", "may 3", "say 2", "untell 1", "later 1",
        "left 1", "world 2", "sure 2", "proof 2", "judge 2", "next 2", "askings 2", "lasts 4", "with 3", "rest 2", "truth 5",
        "leagues 2", "plain 1", "vote 3", "image 1", "back 1", "about 1", "fault 1", "end 1");

    private static int wrong;
    private static int calls;
    private LieOfTwo x;
    private Naive y;
    private int used;
    private final String town;

    private Wild(String town) {
        this.town = town;
        renew();
    }

    public static void main(String[] args) {
        for (String town : TOWNS) {
            new Wild(town).all();
        }
        System.out.println(calls + " calls, " + (wrong == 0 ? "all alike" : wrong + " differ"));
        System.exit(wrong == 0 ? 0 : 1);
    }

    /** A new object: none is used for more than 512 calls. */
    private void renew() {
        x = new LieOfTwo();
        y = new Naive();
        byte[] bytes = town.getBytes(StandardCharsets.ISO_8859_1);
        for (int at = 0; at < bytes.length; at += 20) {
            int[] n = new int[5];
            for (int i = 0; i < 20; i++) {
                int b = at + i < bytes.length ? bytes[at + i] & 255 : 32;
                n[i / 4] = n[i / 4] << 8 | b;
            }
            x.feed(n[0], n[1], n[2], n[3], n[4]);
            y.feed(n[0], n[1], n[2], n[3], n[4]);
        }
        x.town();
        y.town();
        if (y.fault(0) != 0) {
            throw new IllegalStateException("fault " + y.fault(0) + " at " + y.fault(1));
        }
        x.later(3);
        y.later(3);
        int[] persons = {1, 3, 128, 6, 255, 24};
        for (int i = 0; i < persons.length; i++) {
            x.say(persons[i], i, i % 2 == 0, i != 4);
            y.say(persons[i], i, i % 2 == 0, i != 4);
        }
        x.image(1);
        y.image(1);
        x.untell(2);
        y.untell(2);
        used = 90;
    }

    private void all() {
        for (String call : CALLS) {
            int count = call.charAt(call.length() - 1) - '0';
            String name = call.substring(0, call.length() - 2);
            for (int at = 0; at < count; at++) {
                for (int number : NUMBERS) {
                    for (int other = 0; other < 3; other++) {
                        int[] n = {other, other, other, other, other};
                        n[at] = number;
                        same(name, n, other % 2 == 0);
                    }
                }
            }
        }
        x = new LieOfTwo();
        y = new Naive();
        for (int number : NUMBERS) {
            for (int at = 0; at < 5; at++) {
                int[] n = new int[5];
                n[at] = number;
                check("feed", n, x.feed(n[0], n[1], n[2], n[3], n[4]), y.feed(n[0], n[1], n[2], n[3], n[4]));
                check("end", n, x.end(20), y.end(20));
                check("town", n, x.town(), y.town());
                check("fault", n, x.fault(1), y.fault(1));
            }
            x = new LieOfTwo();
            y = new Naive();
        }
    }

    private void same(String name, int[] n, boolean flag) {
        used++;
        if (used > 500) {
            renew();
        }
        int got = answer(x, name, n, flag);
        int due = answer(y, name, n, flag);
        check(name, n, got, due);
    }

    private void check(String name, int[] n, int got, int due) {
        calls++;
        if (got != due) {
            wrong++;
            System.out.println(name + java.util.Arrays.toString(n) + " answered " + got + ", due is " + due);
        }
    }

    private static int answer(LieOfTwo o, String name, int[] n, boolean flag) {
        switch (name) {
            case "is": return o.is(n[0], n[1]);
            case "answers": return o.answers(n[0], n[1], n[2]);
            case "lies": return o.lies(n[0], flag, !flag);
            case "may": return o.may(n[0], n[1], flag, flag, n[2]);
            case "say": return o.say(n[0], n[1], flag, flag);
            case "untell": return o.untell(n[0]) ? 1 : 0;
            case "later": return o.later(n[0]);
            case "left": return o.left(n[0]);
            case "world": return o.world(n[0], n[1]);
            case "sure": return o.sure(n[0], n[1]);
            case "proof": return o.proof(n[0], n[1]);
            case "judge": return o.judge(n[0], n[1]);
            case "next": return o.next(n[0], n[1]);
            case "askings": return o.askings(n[0], n[1]);
            case "lasts": return o.lasts(n[0], n[1] + 1, n[2], n[3]);
            case "with": return o.with(n[0], n[1], n[2]);
            case "rest": return o.rest(n[0], n[1]);
            case "truth": return o.truth(n[0], n[1], n[2], n[3], n[4]);
            case "leagues": return o.leagues(n[0], n[1]);
            case "plain": return o.plain(n[0]);
            case "vote": return o.vote(n[0], n[1], n[2]);
            case "image": return o.image(n[0]);
            case "back": return o.back(n[0]);
            case "about": return o.about(n[0]);
            case "fault": return o.fault(n[0]);
            default: return o.end(n[0]);
        }
    }

    private static int answer(Naive o, String name, int[] n, boolean flag) {
        switch (name) {
            case "is": return o.is(n[0], n[1]);
            case "answers": return o.answers(n[0], n[1], n[2]);
            case "lies": return o.lies(n[0], flag, !flag);
            case "may": return o.may(n[0], n[1], flag, flag, n[2]);
            case "say": return o.say(n[0], n[1], flag, flag);
            case "untell": return o.untell(n[0]) ? 1 : 0;
            case "later": return o.later(n[0]);
            case "left": return o.left(n[0]);
            case "world": return o.world(n[0], n[1]);
            case "sure": return o.sure(n[0], n[1]);
            case "proof": return o.proof(n[0], n[1]);
            case "judge": return o.judge(n[0], n[1]);
            case "next": return o.next(n[0], n[1]);
            case "askings": return o.askings(n[0], n[1]);
            case "lasts": return o.lasts(n[0], n[1] + 1, n[2], n[3]);
            case "with": return o.with(n[0], n[1], n[2]);
            case "rest": return o.rest(n[0], n[1]);
            case "truth": return o.truth(n[0], n[1], n[2], n[3], n[4]);
            case "leagues": return o.leagues(n[0], n[1]);
            case "plain": return o.plain(n[0]);
            case "vote": return o.vote(n[0], n[1], n[2]);
            case "image": return o.image(n[0]);
            case "back": return o.back(n[0]);
            case "about": return o.about(n[0]);
            case "fault": return o.fault(n[0]);
            default: return o.end(n[0]);
        }
    }
}
