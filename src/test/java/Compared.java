import java.nio.charset.StandardCharsets;
import java.util.ArrayList;
import java.util.List;
import java.util.Random;

/** Many towns and calls, made from fixed seeds, on LieOfTwo and on Naive: the answers must be alike. */
public final class Compared {
    // Nothing is promised of an object behind its 512th call.
    private static final int MOST_CALLS = 512;
    // A text of 1,600 bytes: as many feeds as are needed, end, town, and fault twice.
    private static final int CALLS_OF_TOWN = 84;
    // PROOF of each ROW, and of one more.
    private static final int CALLS_AT_ONCE = 13;
    private final Random random;
    private final List<String> log = new ArrayList<>();
    private LieOfTwo x = new LieOfTwo();
    private Naive y = new Naive();
    private int calls;
    private int persons;
    private int rows;
    private int facts;
    private int unitsLeft;
    private static int wrong;
    private static final int[] FAULTS = new int[6];
    private static final java.util.TreeMap<String, Integer> SEEN = new java.util.TreeMap<>();

    private Compared(long seed) {
        random = new Random(seed);
    }

    public static void main(String[] args) {
        int seeds = args.length > 1 ? Integer.parseInt(args[1]) : 1500;
        for (int seed = 1; seed <= seeds && wrong < 5; seed++) {
            new Compared(seed).run();
        }
        System.out.println("faults met: " + java.util.Arrays.toString(FAULTS));
        if (args.length > 2) {
            SEEN.forEach((call, times) -> System.out.println(times + " " + call));
        }
        System.out.println(wrong == 0 ? "all alike" : wrong + " runs differ");
        System.exit(wrong == 0 ? 0 : 1);
    }

    private void run() {
        int towns = 1 + random.nextInt(4);
        for (int t = 0; t < towns && calls + CALLS_OF_TOWN <= MOST_CALLS; t++) {
            String text = townText();
            for (int again = 0; again < 20 && text.length() > 1600; again++) {
                text = townText();
            }
            if (random.nextInt(3) == 0) {
                text = spoiled(text);
            }
            byte[] bytes = text.getBytes(StandardCharsets.ISO_8859_1);
            log.add("TOWN " + text);
            feed(bytes);
            boolean same = same("town()", x.town(), y.town());
            same &= same("fault(0)", x.fault(0), y.fault(0)) & same("fault(1)", x.fault(1), y.fault(1));
            FAULTS[Math.max(0, Math.min(5, y.fault(0)))]++;
            facts = y.about(0);
            persons = y.about(1);
            rows = y.about(2);
            int more = 50 + random.nextInt(200);
            for (int i = 0; i < more && same && calls + CALLS_AT_ONCE <= MOST_CALLS; i++) {
                same = call();
            }
            if (!same) {
                wrong++;
                return;
            }
        }
    }

    private void feed(byte[] bytes) {
        int length = Math.min(bytes.length, 1600);
        int blocks = (length + 19) / 20;
        for (int b = 0; b < blocks; b++) {
            int[] n = new int[5];
            for (int i = 0; i < 20; i++) {
                int at = b * 20 + i;
                n[i / 4] |= (at < length ? bytes[at] & 255 : 32) << 24 - i % 4 * 8;
            }
            same("feed", x.feed(n[0], n[1], n[2], n[3], n[4]), y.feed(n[0], n[1], n[2], n[3], n[4]));
        }
        same("end", x.end(length), y.end(length));
    }

    private boolean same(String call, int got, int due) {
        calls++;
        log.add(call + " = " + got);
        if (due >= -2) {
            int paren = call.indexOf('(');
            String name = paren < 0 ? call : call.substring(0, paren);
            SEEN.merge(name + " " + Math.min(due, 9), 1, Integer::sum);
        }
        if (got != due) {
            System.out.println("---- differs");
            int from = Math.max(0, log.size() - 60);
            for (String s : log.subList(from, log.size())) {
                System.out.println(s);
            }
            System.out.println("due is " + due);
        }
        return got == due;
    }

    private int odd(int count) {
        int kind = random.nextInt(40);
        if (kind == 0) {
            return count;
        }
        if (kind == 1) {
            return -1;
        }
        if (kind == 2) {
            return random.nextInt();
        }
        return random.nextInt(Math.max(1, count));
    }

    private int someWorld() {
        if (random.nextInt(10) > 0) {
            int n = y.left(-1);
            if (n > 0) {
                return y.world(random.nextInt(n), -1);
            }
        }
        return odd(1 << facts);
    }

    private int somePersons() {
        if (random.nextInt(30) == 0) {
            return random.nextInt(3) == 0 ? random.nextInt() : random.nextInt(300) - 5;
        }
        int p = Math.max(1, persons);
        if (random.nextInt(2) == 0) {
            return 1 << random.nextInt(p) | 1 << random.nextInt(p);
        }
        return 1 + random.nextInt((1 << p) - 1 > 0 ? (1 << p) - 1 : 1);
    }

    private int someTime() {
        int kind = random.nextInt(12);
        if (kind == 0) {
            return Integer.MAX_VALUE;
        }
        if (kind == 1) {
            return random.nextBoolean() ? -1 : Integer.MIN_VALUE;
        }
        int now = y.about(6);
        return kind < 9 ? now : now - random.nextInt(8);
    }

    private boolean call() {
        int r = odd(rows);
        int w = someWorld();
        int k = someTime();
        int p = odd(persons);
        int q = odd(persons);
        int ps = somePersons();
        boolean apart = random.nextBoolean();
        boolean surely = random.nextBoolean();
        int what = random.nextInt(6) - 1;
        switch (random.nextInt(30)) {
            case 0:
                return same("is(" + r + "," + w + ")", x.is(r, w), y.is(r, w));
            case 1:
                return same("answers(" + p + "," + r + "," + w + ")", x.answers(p, r, w), y.answers(p, r, w));
            case 2:
                return same("lies(" + ps + "," + apart + "," + surely + ")",
                    x.lies(ps, apart, surely), y.lies(ps, apart, surely));
            case 3:
                return same("may(" + ps + "," + r + "," + apart + "," + surely + "," + w + ")",
                    x.may(ps, r, apart, surely, w), y.may(ps, r, apart, surely, w));
            case 4:
            case 5:
                return trySaying(ps, r, apart, surely);
            case 6:
                int s = odd(y.about(5) + 1);
                return same("untell(" + s + ")", x.untell(s) ? 1 : 0, y.untell(s) ? 1 : 0);
            case 7:
                int by = random.nextInt(20) == 0 ? random.nextInt() : random.nextInt(20) == 0
                    ? random.nextInt(1100) - 50 : random.nextInt(3);
                return same("later(" + by + ")", x.later(by), y.later(by));
            case 8:
                return same("left(" + k + ")", x.left(k), y.left(k));
            case 9:
                int i = odd(y.left(k));
                return same("world(" + i + "," + k + ")", x.world(i, k), y.world(i, k));
            case 10:
                return same("sure(" + r + "," + k + ")", x.sure(r, k), y.sure(r, k));
            case 11:
                boolean same = true;
                for (int row = 0; row < rows; row++) {
                    same &= same("proof(" + row + "," + k + ")", x.proof(row, k), y.proof(row, k));
                }
                return same && same("proof(" + r + "," + k + ")", x.proof(r, k), y.proof(r, k));
            case 12:
                return same("judge(" + w + "," + k + ")", x.judge(w, k), y.judge(w, k));
            case 13:
                return same("next(" + what + "," + k + ")", x.next(what, k), y.next(what, k));
            case 14:
            case 28:
                return same("askings(" + r + "," + k + ")", x.askings(r, k), y.askings(r, k));
            case 15:
                return same("lasts(" + p + "," + q + "," + r + "," + w + ")", x.lasts(p, q, r, w), y.lasts(p, q, r, w));
            case 16:
                return same("with(" + p + "," + r + "," + w + ")", x.with(p, r, w), y.with(p, r, w));
            case 17:
                return same("rest(" + w + "," + what + ")", x.rest(w, what), y.rest(w, what));
            case 18:
                int c = random.nextInt(13) - 1;
                int d = random.nextInt(13) - 1;
                return same("truth(" + r + "," + c + "," + d + "," + what + "," + k + ")",
                    x.truth(r, c, d, what, k), y.truth(r, c, d, what, k));
            case 19:
            case 29:
                return same("leagues(" + w + "," + k + ")", x.leagues(w, k), y.leagues(w, k));
            case 20:
                return same("plain(" + k + ")", x.plain(k), y.plain(k));
            case 21:
            case 22:
                return same("vote(" + r + "," + w + "," + what + ")", x.vote(r, w, what), y.vote(r, w, what));
            case 23:
                return same("image(" + what + ")", x.image(what), y.image(what));
            case 24:
                return same("back(" + what + ")", x.back(what), y.back(what));
            case 25:
                int about = random.nextInt(13) - 1;
                return same("about(" + about + ")", x.about(about), y.about(about));
            case 26:
                return same("fault(" + what + ")", x.fault(what), y.fault(what));
            default:
                int n = random.nextInt(200) - 20;
                return same("end(" + n + ")", x.end(n), y.end(n));
        }
    }

    // SAYINGS that leave no WORLD make a dull run, so most of them are left out.
    private boolean trySaying(int ps, int r, boolean apart, boolean surely) {
        int now = y.about(6);
        int w = y.left(now) > 0 ? y.world(random.nextInt(y.left(now)), now) : NONE;
        if (w != NONE && y.may(ps, r, apart, surely, w) == 0 && random.nextInt(8) > 0) {
            return true;
        }
        return same("say(" + ps + "," + r + "," + apart + "," + surely + ")",
            x.say(ps, r, apart, surely), y.say(ps, r, apart, surely));
    }

    private static final int NONE = -1;

    // ---- texts

    private String gap() {
        int n = random.nextInt(12);
        return n == 0 ? "\n" : n == 1 ? "  " : " ";
    }

    private String thin() {
        int n = random.nextInt(8);
        return n == 0 ? " " : n == 1 ? "\n" : "";
    }

    private String pick(List<String> from) {
        return from.get(random.nextInt(from.size()));
    }

    private String townText() {
        StringBuilder b = new StringBuilder();
        unitsLeft = random.nextInt(10) == 0 ? 90 : 20 + random.nextInt(60);
        int[] most = {upTo(8, 6), upTo(8, 8), upTo(12, 7), upTo(4, 3) - 1, upTo(12, 12), upTo(12, 12)};
        List<String> fs = new ArrayList<>();
        List<String> pp = new ArrayList<>();
        List<String> rs = new ArrayList<>();
        List<String> tied = new ArrayList<>();
        List<String> wished = new ArrayList<>();
        List<String> bare = new ArrayList<>();
        for (int i = 0; i < most[0]; i++) {
            String n = (random.nextBoolean() ? "f" : "longfac") + (char) ('a' + i);
            fs.add(n);
            bare.add(n);
            b.append("fact").append(gap()).append(n).append(thin()).append(';').append(thin());
        }
        for (int i = 0; i < most[1]; i++) {
            String n = (random.nextInt(6) == 0 ? "f" : "p") + (char) ('a' + i);
            pp.add(n);
            b.append("person ").append(n).append(" cost").append(thin()).append(random.nextInt(5) == 0 ? random.nextInt(100) : random.nextInt(4));
            String known = "";
            for (String f : fs) {
                if (random.nextInt(5) < 2) {
                    known += gap() + f;
                }
            }
            if (!known.isEmpty()) {
                b.append(" knows").append(known);
            }
            b.append(thin()).append(';').append(thin());
        }
        int law = random.nextInt(3) == 0 ? 0 : 1;
        int[] done = new int[6];
        for (int turn = 0; turn < 60; turn++) {
            int kind = random.nextInt(5);
            if (kind == 0 && done[2] < most[2]) {
                String n = "r" + (char) ('a' + done[2]++);
                List<String> names = new ArrayList<>(fs);
                names.addAll(rs);
                String e = expression(names, pp, 0, random.nextInt(4) > 0);
                b.append("row ").append(n).append(' ').append(e).append(';').append(thin());
                rs.add(n);
                if (!e.contains("holds") && !e.contains("thinks") && random.nextBoolean() && !mentionsRow(e)) {
                    bare.add(n);
                }
            } else if (kind == 1 && done[3] < most[3]) {
                done[3]++;
                b.append("always ").append(expression(bare, pp, 0, false)).append(';').append(thin());
            } else if (kind == 2 && done[4] < most[4]) {
                String one = pick(pp);
                String other = pick(pp);
                if (random.nextInt(200) == 0 || !one.equals(other) && !tied.contains(one + " " + other) && !tied.contains(other + " " + one)) {
                    done[4]++;
                    tied.add(one + " " + other);
                    b.append("tie ").append(one).append(gap()).append(other).append(" price ").append(random.nextInt(6) == 0 ? random.nextInt(100) : random.nextInt(5)).append(';').append(thin());
                }
            } else if (kind == 3 && done[5] < most[5] && !rs.isEmpty()) {
                String one = pick(pp);
                String row = pick(rs);
                if (random.nextInt(200) == 0 || !wished.contains(one + " " + row)) {
                    done[5]++;
                    wished.add(one + " " + row);
                    b.append("wish ").append(one).append(gap()).append(row).append(" worth ").append(random.nextInt(6) == 0 ? random.nextInt(100) : random.nextInt(9)).append(';').append(thin());
                }
            } else if (kind == 4 && law == 1 && random.nextInt(4) == 0) {
                law = random.nextInt(60) == 0 ? 1 : 2;
                b.append("law ").append(any(0)).append(thin()).append(';').append(thin());
            }
        }
        return b.toString();
    }

    /** Mostly 1 to few, now and then the most, seldom one more. */
    private int upTo(int most, int few) {
        int kind = random.nextInt(40);
        return kind == 0 ? most + 1 : kind < 6 ? most : 1 + random.nextInt(few);
    }

    private boolean mentionsRow(String e) {
        return e.matches("(?s).*\\br[a-m]\\b.*");
    }

    private String expression(List<String> names, List<String> pp, int depth, boolean minds) {
        StringBuilder b = new StringBuilder(alternative(names, pp, depth, minds));
        if (random.nextInt(4) == 0) {
            b.append(" if ").append(alternative(names, pp, depth, minds));
        }
        return b.toString();
    }

    private String alternative(List<String> names, List<String> pp, int depth, boolean minds) {
        StringBuilder b = new StringBuilder();
        int n = 1 + random.nextInt(3) / 2;
        for (int i = 0; i < n; i++) {
            b.append(i > 0 ? " or " : "").append(one(names, pp, depth, minds));
            if (random.nextInt(4) == 0) {
                b.append(" and ").append(one(names, pp, depth, minds));
            }
        }
        return b.toString();
    }

    private String one(List<String> names, List<String> pp, int depth, boolean minds) {
        int kind = random.nextInt(10);
        boolean deep = depth >= (random.nextInt(300) == 0 ? 9 : 6);
        if (!deep && kind < 2) {
            return "not " + one(names, pp, depth + 1, minds);
        }
        if (!deep && minds && kind < 5) {
            return (kind < 4 ? "holds " : "thinks ") + pick(pp) + gap() + one(names, pp, depth + 1, minds);
        }
        unitsLeft--;
        if (!deep && kind == 5 && unitsLeft > 0) {
            return "(" + thin() + expression(names, pp, depth + 1, minds) + thin() + ")";
        }
        return pick(names);
    }

    private String any(int depth) {
        StringBuilder b = new StringBuilder(relation(depth));
        while (random.nextInt(4) == 0) {
            b.append(" or ").append(relation(depth));
        }
        return b.toString();
    }

    private String relation(int depth) {
        String a = sum(depth);
        return random.nextInt(3) > 0 ? a + thin() + "<>=".charAt(random.nextInt(3)) + thin() + sum(depth) : a;
    }

    private String sum(int depth) {
        StringBuilder b = new StringBuilder(part(depth));
        while (random.nextInt(4) == 0) {
            b.append(random.nextBoolean() ? "+" : "-").append(part(depth));
        }
        return b.toString();
    }

    private String part(int depth) {
        switch (random.nextInt(depth < 6 ? 7 : 6)) {
            case 0:
            case 1:
                return "voices";
            case 2:
                return "apart";
            case 3:
                return "tied";
            case 4:
                return "thinks";
            case 5:
                return String.valueOf(random.nextInt(9) == 0 ? random.nextInt(10000) : random.nextInt(4));
            default:
                return "(" + any(depth + 1) + ")";
        }
    }

    private static final String[] PIECES = {"fact", "person", "cost", "knows", "row", "always", "tie", "price", "wish",
        "worth", "law", "if", "or", "and", "not", "holds", "thinks", "voices", "apart", "tied", ";", "(", ")", "<", ">",
        "=", "+", "-", "7", "99", "100", "0100", "00099", "9999", "12345", "5a", "a5", "abcdefgh", "abcdefghi", "fa", "fb", "pa", "pb",
        "ra", "rb", "A", "\t", "\u00e9", "5A", "not not not not not not not fa", "((((((( fa )))))))", "(((((((", "((((((((fa))))))))"};

    private String spoiled(String text) {
        StringBuilder b = new StringBuilder(text);
        int times = 1 + random.nextInt(2);
        for (int i = 0; i < times && b.length() > 2; i++) {
            int at = random.nextInt(b.length());
            switch (random.nextInt(7)) {
                case 6:
                    int cost = b.indexOf("cost", at);
                    int price = b.indexOf("price", at);
                    int worth = b.indexOf("worth", at);
                    int next = random.nextInt(3);
                    int word = next == 0 ? cost : next == 1 ? price : worth;
                    if (word >= 0) {
                        b.insert(word + (next == 0 ? 5 : 6), " 10");
                    }
                    break;
                case 0:
                    b.deleteCharAt(at);
                    break;
                case 1:
                    b.insert(at, PIECES[random.nextInt(PIECES.length)]);
                    break;
                case 2:
                    b.setLength(at);
                    break;
                case 3:
                    b.setCharAt(at, (char) random.nextInt(256));
                    break;
                default:
                    // a whole TOKEN gives way to another
                    int from = at;
                    while (from > 0 && Character.isLetterOrDigit(b.charAt(from - 1))) {
                        from--;
                    }
                    int to = at;
                    while (to < b.length() && Character.isLetterOrDigit(b.charAt(to))) {
                        to++;
                    }
                    b.replace(from, Math.max(to, from), " " + PIECES[random.nextInt(PIECES.length)] + " ");
            }
        }
        return b.toString();
    }
}
