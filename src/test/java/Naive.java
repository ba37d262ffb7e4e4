import java.util.ArrayList;
import java.util.Arrays;
import java.util.HashMap;
import java.util.HashSet;
import java.util.List;
import java.util.Map;
import java.util.Set;
import java.util.TreeSet;
import java.util.function.IntPredicate;
import java.util.function.IntUnaryOperator;

/** The document once more, as plainly as can be: no bits, no sets kept, all counted out each time. */
final class Naive {
    static final int NONE = -1;
    static final Set<String> KEPT = new HashSet<>(Arrays.asList("fact", "person", "cost", "knows",
        "row", "always", "tie", "price", "wish", "worth", "law", "if", "or", "and", "not", "holds",
        "thinks", "voices", "apart", "tied"));

    static final class Fault extends RuntimeException {
        private static final long serialVersionUID = 1L;
        final int what;
        final int place;

        Fault(int what, int place) {
            this.what = what;
            this.place = place;
        }
    }

    record Token(char sort, String text, int place) { }

    record Speech(int persons, boolean apart, boolean tied, boolean thinks) { }

    interface Law {
        int of(Speech speech);
    }

    static final class Expression {
        IntPredicate so;
        boolean holds;

        // Each WORLD is counted out once: else holds in holds in holds takes for ever.
        Expression(IntPredicate from, boolean holds) {
            int[] seen = new int[256];
            this.so = w -> {
                if (seen[w] == 0) {
                    seen[w] = from.test(w) ? 2 : 1;
                }
                return seen[w] == 2;
            };
            this.holds = holds;
        }
    }

    static final class Person {
        String name;
        int cost;
        Set<Integer> knows = new TreeSet<>();
    }

    static final class Tie {
        int one;
        int other;
        int price;
    }

    static final class Saying {
        int persons;
        int row;
        boolean apart;
        boolean surely;
        int told;
        Integer untold;

        Saying copy() {
            Saying s = new Saying();
            s.persons = persons;
            s.row = row;
            s.apart = apart;
            s.surely = surely;
            s.told = told;
            s.untold = untold;
            return s;
        }
    }

    /** A text read. */
    static final class Town {
        final List<String> facts = new ArrayList<>();
        final List<Person> persons = new ArrayList<>();
        final List<String> rowNames = new ArrayList<>();
        final List<Expression> rows = new ArrayList<>();
        final List<Expression> always = new ArrayList<>();
        final List<Tie> ties = new ArrayList<>();
        final Map<List<Integer>, Integer> wishes = new HashMap<>();
        Law law;
        int units;
        boolean[] base = {true};
        final Map<Integer, Integer> answers = new HashMap<>();

        void settle() {
            boolean[] all = new boolean[1 << facts.size()];
            for (int w = 0; w < all.length; w++) {
                all[w] = true;
                for (Expression e : always) {
                    all[w] &= e.so.test(w);
                }
            }
            base = all;
        }

        boolean tied(int a, int b) {
            for (Tie t : ties) {
                if (t.one == a && t.other == b || t.one == b && t.other == a) {
                    return true;
                }
            }
            return false;
        }

        boolean alike(int person, int w, int v) {
            for (int f : persons.get(person).knows) {
                if ((w >> f & 1) != (v >> f & 1)) {
                    return false;
                }
            }
            return true;
        }

        boolean holds(int person, IntPredicate so, int w) {
            for (int v = 0; v < base.length; v++) {
                if (base[v] && alike(person, w, v) && !so.test(v)) {
                    return false;
                }
            }
            return true;
        }

        boolean thinks(int person, IntPredicate so, int w) {
            for (int v = 0; v < base.length; v++) {
                if (base[v] && alike(person, w, v) && so.test(v)) {
                    return true;
                }
            }
            return false;
        }
    }

    /** Reads a text, or throws its first fault. */
    static final class Reader {
        final List<Token> tokens = new ArrayList<>();
        int next;
        final Town town = new Town();
        boolean always;

        Reader(byte[] text) {
            int at = 0;
            while (at < text.length) {
                int from = at;
                int c = text[at] & 255;
                if (c == 32 || c == 10) {
                    at++;
                } else if (c >= 'a' && c <= 'z') {
                    while (at < text.length && text[at] >= 'a' && text[at] <= 'z') {
                        at++;
                    }
                    String word = new String(text, from, at - from, java.nio.charset.StandardCharsets.ISO_8859_1);
                    tokens.add(new Token(word.length() > 8 ? 'X' : KEPT.contains(word) ? 'K' : 'W', word, from));
                } else if (c >= '0' && c <= '9') {
                    while (at < text.length && text[at] >= '0' && text[at] <= '9') {
                        at++;
                    }
                    boolean bad = at - from > 4 || at < text.length && text[at] >= 'a' && text[at] <= 'z';
                    String digits = new String(text, from, at - from, java.nio.charset.StandardCharsets.ISO_8859_1);
                    tokens.add(new Token(bad ? 'X' : 'N', digits, from));
                } else {
                    boolean sign = ";()<>=+-".indexOf(c) >= 0;
                    tokens.add(new Token(sign ? 'S' : 'X', String.valueOf((char) c), from));
                    at++;
                }
            }
            tokens.add(new Token('E', "", text.length));
        }

        Token peek() {
            Token t = tokens.get(next);
            if (t.sort == 'X') {
                throw new Fault(1, t.place);
            }
            return t;
        }

        boolean at(String what) {
            Token t = peek();
            return (t.sort == 'K' || t.sort == 'S') && t.text.equals(what);
        }

        Fault fault(int what) {
            return new Fault(what, peek().place);
        }

        void must(String what) {
            if (!at(what)) {
                throw fault(2);
            }
            next++;
        }

        String name() {
            if (peek().sort != 'W') {
                throw fault(2);
            }
            return peek().text;
        }

        int number(int most) {
            if (peek().sort != 'N') {
                throw fault(2);
            }
            int n = Integer.parseInt(peek().text);
            if (n > most) {
                throw fault(4);
            }
            next++;
            return n;
        }

        void room(int count, int most) {
            if (count >= most) {
                throw fault(2);
            }
            next++;
        }

        String fresh() {
            String n = name();
            if (town.facts.contains(n) || town.rowNames.contains(n)) {
                throw fault(3);
            }
            next++;
            return n;
        }

        int person() {
            String n = name();
            for (int i = 0; i < town.persons.size(); i++) {
                if (town.persons.get(i).name.equals(n)) {
                    next++;
                    return i;
                }
            }
            throw fault(5);
        }

        Town read() {
            boolean law = false;
            while (peek().sort != 'E') {
                if (at("fact")) {
                    room(town.facts.size(), 8);
                    String n = fresh();
                    must(";");
                    town.facts.add(n);
                } else if (at("person")) {
                    room(town.persons.size(), 8);
                    onePerson();
                } else if (at("row")) {
                    room(town.rows.size(), 12);
                    String n = fresh();
                    always = false;
                    Expression e = e(0);
                    must(";");
                    town.rowNames.add(n);
                    town.rows.add(e);
                } else if (at("always")) {
                    room(town.always.size(), 4);
                    always = true;
                    Expression e = e(0);
                    must(";");
                    town.always.add(e);
                } else if (at("tie")) {
                    room(town.ties.size(), 12);
                    oneTie();
                } else if (at("wish")) {
                    room(town.wishes.size(), 12);
                    oneWish();
                } else if (at("law")) {
                    room(law ? 1 : 0, 1);
                    law = true;
                    town.law = f(0);
                    must(";");
                } else {
                    throw fault(2);
                }
            }
            if (!law) {
                town.law = s -> Integer.bitCount(s.persons()) > 1 ? 1 : 0;
            }
            town.settle();
            return town;
        }

        void onePerson() {
            Person p = new Person();
            p.name = name();
            for (Person q : town.persons) {
                if (q.name.equals(p.name)) {
                    throw fault(3);
                }
            }
            next++;
            must("cost");
            p.cost = number(99);
            if (at("knows")) {
                next++;
                do {
                    int f = town.facts.indexOf(name());
                    if (f < 0) {
                        throw fault(5);
                    }
                    if (!p.knows.add(f)) {
                        throw fault(3);
                    }
                    next++;
                } while (peek().sort == 'W');
            }
            must(";");
            town.persons.add(p);
        }

        void oneTie() {
            Tie t = new Tie();
            t.one = person();
            int back = next;
            t.other = person();
            if (t.one == t.other || town.tied(t.one, t.other)) {
                next = back;
                throw fault(3);
            }
            must("price");
            t.price = number(99);
            must(";");
            town.ties.add(t);
        }

        void oneWish() {
            int p = person();
            int r = town.rowNames.indexOf(name());
            if (r < 0) {
                throw fault(5);
            }
            if (town.wishes.containsKey(List.of(p, r))) {
                throw fault(3);
            }
            next++;
            must("worth");
            int n = number(99);
            must(";");
            town.wishes.put(List.of(p, r), n);
        }

        Expression e(int depth) {
            Expression a = alt(depth);
            if (at("if")) {
                next++;
                Expression b = alt(depth);
                return new Expression(w -> a.so.test(w) || !b.so.test(w), a.holds || b.holds);
            }
            return a;
        }

        Expression alt(int depth) {
            Expression all = both(depth);
            while (at("or")) {
                next++;
                Expression a = all;
                Expression b = both(depth);
                all = new Expression(w -> a.so.test(w) || b.so.test(w), a.holds || b.holds);
            }
            return all;
        }

        Expression both(int depth) {
            Expression all = one(depth);
            while (at("and")) {
                next++;
                Expression a = all;
                Expression b = one(depth);
                all = new Expression(w -> a.so.test(w) && b.so.test(w), a.holds || b.holds);
            }
            return all;
        }

        Expression one(int depth) {
            if (at("not")) {
                deeper(depth);
                Expression a = one(depth + 1);
                return new Expression(w -> !a.so.test(w), a.holds);
            }
            if (at("holds") || at("thinks")) {
                boolean holds = at("holds");
                if (always) {
                    throw fault(2);
                }
                deeper(depth);
                int p = person();
                Expression a = one(depth + 1);
                return new Expression(w -> holds ? town.holds(p, a.so, w) : town.thinks(p, a.so, w), true);
            }
            return unit(depth);
        }

        void deeper(int depth) {
            if (depth > 6) {
                throw fault(2);
            }
            next++;
        }

        void unitCounts() {
            if (town.units == 80) {
                throw fault(2);
            }
            town.units++;
        }

        Expression unit(int depth) {
            if (at("(")) {
                unitCounts();
                deeper(depth);
                Expression a = e(depth + 1);
                must(")");
                return a;
            }
            String n = name();
            unitCounts();
            int f = town.facts.indexOf(n);
            int r = town.rowNames.indexOf(n);
            if (f < 0 && r < 0 || r >= 0 && always && town.rows.get(r).holds) {
                throw fault(5);
            }
            next++;
            return f >= 0 ? new Expression(w -> (w >> f & 1) != 0, false) : town.rows.get(r);
        }

        Law f(int depth) {
            Law all = any(depth);
            while (at("or")) {
                next++;
                Law a = all;
                Law b = any(depth);
                all = s -> a.of(s) != 0 || b.of(s) != 0 ? 1 : 0;
            }
            return all;
        }

        Law any(int depth) {
            Law a = sum(depth);
            String sign = peek().text;
            if (at("<") || at(">") || at("=")) {
                next++;
                Law b = sum(depth);
                return s -> {
                    int x = Integer.compare(a.of(s), b.of(s));
                    return (sign.equals("<") ? x < 0 : sign.equals(">") ? x > 0 : x == 0) ? 1 : 0;
                };
            }
            return a;
        }

        Law sum(int depth) {
            Law all = part(depth);
            while (at("+") || at("-")) {
                int by = at("+") ? 1 : -1;
                next++;
                Law a = all;
                Law b = part(depth);
                all = s -> a.of(s) + by * b.of(s);
            }
            return all;
        }

        Law part(int depth) {
            Token t = peek();
            boolean can = t.sort == 'N' || at("voices") || at("apart") || at("tied") || at("thinks") || at("(");
            if (!can) {
                throw fault(2);
            }
            unitCounts();
            if (at("(")) {
                deeper(depth);
                Law a = f(depth + 1);
                must(")");
                return a;
            }
            next++;
            if (t.sort == 'N') {
                int n = Integer.parseInt(t.text);
                return s -> n;
            }
            switch (t.text) {
                case "voices":
                    return s -> Integer.bitCount(s.persons());
                case "apart":
                    return s -> s.apart() ? 1 : 0;
                case "tied":
                    return s -> s.tied() ? 1 : 0;
                default:
                    return s -> s.thinks() ? 1 : 0;
            }
        }
    }

    private final List<Byte> tape = new ArrayList<>();
    private Town town = new Reader(new byte[0]).read();
    private List<Saying> sayings = new ArrayList<>();
    private final List<List<Saying>> boxes = new ArrayList<>(Arrays.asList(null, null, null));
    private int time;
    private int faultWhat;
    private int faultPlace = NONE;

    int feed(int a, int b, int c, int d, int e) {
        if (tape.size() + 20 > 1600) {
            return NONE;
        }
        for (int n : new int[] {a, b, c, d, e}) {
            for (byte x : java.nio.ByteBuffer.allocate(4).putInt(n).array()) {
                tape.add(x);
            }
        }
        return tape.size();
    }

    int end(int n) {
        if (n < 0 || n > tape.size()) {
            return NONE;
        }
        while (tape.size() > n) {
            tape.remove(tape.size() - 1);
        }
        return n;
    }

    int town() {
        byte[] text = new byte[tape.size()];
        for (int i = 0; i < text.length; i++) {
            text[i] = tape.get(i);
        }
        tape.clear();
        try {
            town = new Reader(text).read();
        } catch (Fault f) {
            faultWhat = f.what;
            faultPlace = f.place;
            return NONE;
        }
        faultWhat = 0;
        faultPlace = NONE;
        sayings = new ArrayList<>();
        for (int i = 0; i < 3; i++) {
            boxes.set(i, null);
        }
        return baseSize();
    }

    private int baseSize() {
        int n = 0;
        for (boolean b : town.base) {
            n += b ? 1 : 0;
        }
        return n;
    }

    int fault(int what) {
        return what == 0 ? faultWhat : what == 1 ? faultPlace : NONE;
    }

    private boolean row(int r) {
        return r >= 0 && r < town.rows.size();
    }

    private boolean inBase(int w) {
        return w >= 0 && w < town.base.length && town.base[w];
    }

    private boolean person(int p) {
        return p >= 0 && p < town.persons.size();
    }

    private boolean persons(int bits) {
        return bits > 0 && bits <= (1 << town.persons.size()) - 1;
    }

    private boolean so(int r, int w) {
        return town.rows.get(r).so.test(w);
    }

    int is(int r, int w) {
        return !row(r) || !inBase(w) ? NONE : so(r, w) ? 1 : 0;
    }

    private int answer(int p, int r, int w) {
        return town.answers.computeIfAbsent((p * 16 + r) * 256 + w, x -> countedAnswer(p, r, w));
    }

    private int countedAnswer(int p, int r, int w) {
        if (town.holds(p, town.rows.get(r).so, w)) {
            return 1;
        }
        return town.holds(p, town.rows.get(r).so.negate(), w) ? 0 : 2;
    }

    int answers(int p, int r, int w) {
        return !person(p) || !row(r) || !inBase(w) ? NONE : answer(p, r, w);
    }

    private List<Integer> members(int bits) {
        List<Integer> out = new ArrayList<>();
        for (int p = 0; p < 8; p++) {
            if ((bits >> p & 1) != 0) {
                out.add(p);
            }
        }
        return out;
    }

    private boolean canLie(int bits, boolean apart, boolean surely) {
        boolean tied = false;
        for (int a : members(bits)) {
            for (int b : members(bits)) {
                tied |= town.tied(a, b);
            }
        }
        return town.law.of(new Speech(bits, apart, tied, !surely)) != 0;
    }

    int lies(int bits, boolean apart, boolean surely) {
        return !persons(bits) ? NONE : canLie(bits, apart, surely) ? 1 : 0;
    }

    private boolean can(int bits, int r, boolean apart, boolean surely, int w) {
        if (canLie(bits, apart, surely)) {
            return true;
        }
        for (int p : members(bits)) {
            IntPredicate e = town.rows.get(r).so;
            if (!(surely ? town.holds(p, e, w) : town.thinks(p, e, w))) {
                return false;
            }
        }
        return true;
    }

    int may(int bits, int r, boolean apart, boolean surely, int w) {
        return !persons(bits) || !row(r) || !inBase(w) ? NONE : can(bits, r, apart, surely, w) ? 1 : 0;
    }

    int say(int bits, int r, boolean apart, boolean surely) {
        if (!persons(bits) || !row(r) || sayings.size() == 40) {
            return NONE;
        }
        Saying s = new Saying();
        s.persons = bits;
        s.row = r;
        s.apart = apart;
        s.surely = surely;
        s.told = time;
        sayings.add(s);
        return sayings.size() - 1;
    }

    boolean untell(int s) {
        if (s < 0 || s >= sayings.size() || sayings.get(s).untold != null) {
            return false;
        }
        sayings.get(s).untold = time;
        return true;
    }

    int later(int by) {
        if (by < 0 || by > 1000 || time + by > 100000) {
            return NONE;
        }
        time += by;
        return time;
    }

    private List<Integer> counting(int k) {
        List<Integer> out = new ArrayList<>();
        for (int i = 0; i < sayings.size(); i++) {
            Saying s = sayings.get(i);
            if (s.told <= k && (s.untold == null || s.untold > k)) {
                out.add(i);
            }
        }
        return out;
    }

    private boolean said(int s, int w) {
        Saying x = sayings.get(s);
        return can(x.persons, x.row, x.apart, x.surely, w);
    }

    private List<Integer> leftBy(List<Integer> by) {
        List<Integer> out = new ArrayList<>();
        for (int w = 0; w < town.base.length; w++) {
            boolean in = town.base[w];
            for (int s : by) {
                in = in && said(s, w);
            }
            if (in) {
                out.add(w);
            }
        }
        return out;
    }

    private List<Integer> leftAt(int k) {
        return leftBy(counting(k));
    }

    int left(int k) {
        return leftAt(k).size();
    }

    int world(int i, int k) {
        List<Integer> l = leftAt(k);
        return i < 0 || i >= l.size() ? NONE : l.get(i);
    }

    private int soIn(int r, List<Integer> worlds) {
        int n = 0;
        for (int w : worlds) {
            n += so(r, w) ? 1 : 0;
        }
        return n;
    }

    int sure(int r, int k) {
        List<Integer> l = leftAt(k);
        if (!row(r) || l.isEmpty()) {
            return NONE;
        }
        int n = soIn(r, l);
        return n == l.size() ? 1 : n == 0 ? 0 : -2;
    }

    int proof(int r, int k) {
        if (sure(r, k) != 1) {
            return NONE;
        }
        List<Integer> c = counting(k);
        if (c.size() > 10) {
            return -2;
        }
        for (int size = 0; size <= c.size(); size++) {
            for (int set = 0; set < 1 << c.size(); set++) {
                if (members16(set).size() == size) {
                    List<Integer> by = new ArrayList<>();
                    for (int i : members16(set)) {
                        by.add(c.get(i));
                    }
                    List<Integer> l = leftBy(by);
                    if (soIn(r, l) == l.size()) {
                        return set;
                    }
                }
            }
        }
        return -99;
    }

    private static List<Integer> members16(int set) {
        List<Integer> out = new ArrayList<>();
        for (int i = 0; i < 16; i++) {
            if ((set >> i & 1) != 0) {
                out.add(i);
            }
        }
        return out;
    }

    int judge(int w, int k) {
        if (!inBase(w)) {
            return -2;
        }
        for (int s : counting(k)) {
            if (!said(s, w)) {
                return s;
            }
        }
        return NONE;
    }

    int next(int what, int k) {
        List<Integer> l = leftAt(k);
        int[] best = null;
        for (int p = 0; p < town.persons.size(); p++) {
            for (int r = 0; r < town.rows.size(); r++) {
                int[] n = new int[3];
                for (int w : l) {
                    n[answer(p, r, w)]++;
                }
                int[] now = {Math.max(n[0], Math.max(n[1], n[2])), town.persons.get(p).cost, p, r};
                if (best == null || Arrays.compare(now, best) < 0) {
                    best = now;
                }
            }
        }
        if (best == null || l.isEmpty() || what < 0 || what > 2) {
            return NONE;
        }
        return what == 0 ? best[2] : what == 1 ? best[3] : best[0];
    }

    private boolean tells(int r, List<Integer> worlds, int askings) {
        int n = soIn(r, worlds);
        if (n == 0 || n == worlds.size()) {
            return true;
        }
        if (askings == 0) {
            return false;
        }
        for (int p = 0; p < town.persons.size(); p++) {
            for (int q = 0; q < town.rows.size(); q++) {
                List<List<Integer>> parts = List.of(new ArrayList<>(), new ArrayList<>(), new ArrayList<>());
                for (int w : worlds) {
                    parts.get(answer(p, q, w)).add(w);
                }
                if (tells(r, parts.get(0), askings - 1) && tells(r, parts.get(1), askings - 1)
                    && tells(r, parts.get(2), askings - 1)) {
                    return true;
                }
            }
        }
        return false;
    }

    int askings(int r, int k) {
        List<Integer> l = leftAt(k);
        if (!row(r) || l.isEmpty()) {
            return -2;
        }
        for (int n = 0; n <= 2; n++) {
            if (tells(r, l, n)) {
                return n;
            }
        }
        return NONE;
    }

    private int others(int a, int b, int r, int w) {
        int n = 0;
        for (int p = 0; p < town.persons.size(); p++) {
            if (p != a && p != b && !town.holds(p, town.rows.get(r).so.negate(), w)) {
                n++;
            }
        }
        return n;
    }

    int lasts(int a, int b, int r, int w) {
        if (!person(a) || !person(b) || a == b || !row(r) || !inBase(w) || so(r, w)) {
            return NONE;
        }
        return others(a, b, r, w);
    }

    int with(int p, int r, int w) {
        if (!person(p) || !row(r) || !inBase(w) || so(r, w)) {
            return NONE;
        }
        int best = NONE;
        int most = Integer.MIN_VALUE;
        for (int q = 0; q < town.persons.size(); q++) {
            for (Tie t : town.ties) {
                if (t.one == p && t.other == q || t.one == q && t.other == p) {
                    int v = others(p, q, r, w) * 10 - t.price;
                    if (v > most) {
                        most = v;
                        best = q;
                    }
                }
            }
        }
        return best;
    }

    private boolean apartFromEachOther(int set) {
        Set<Integer> seen = new HashSet<>();
        for (int t : members16(set)) {
            if (!seen.add(town.ties.get(t).one) || !seen.add(town.ties.get(t).other)) {
                return false;
            }
        }
        return true;
    }

    private int gain(Tie t, int w) {
        int most = 0;
        for (int r = 0; r < town.rows.size(); r++) {
            Integer a = town.wishes.get(List.of(t.one, r));
            Integer b = town.wishes.get(List.of(t.other, r));
            if (a != null && b != null && !so(r, w)) {
                most = Math.max(most, a + b);
            }
        }
        return most - 2 * t.price;
    }

    int rest(int w, int what) {
        if (!inBase(w) || what < 0 || what > 1) {
            return NONE;
        }
        int most = Integer.MIN_VALUE;
        int best = 0;
        for (int set = 0; set < 1 << town.ties.size(); set++) {
            if (apartFromEachOther(set)) {
                int sum = 0;
                for (int t : members16(set)) {
                    sum += gain(town.ties.get(t), w);
                }
                if (sum > most) {
                    most = sum;
                    best = set;
                }
            }
        }
        return what == 0 ? most : best;
    }

    int truth(int r, int c, int d, int part, int k) {
        if (!row(r) || c < 0 || c > 10 || d < 0 || d > 10 || part < 0 || part > 1) {
            return NONE;
        }
        List<Integer> l = leftAt(k);
        int upper = soIn(r, l) * c;
        int lower = upper + (l.size() - soIn(r, l)) * d;
        if (lower == 0) {
            return NONE;
        }
        int by = java.math.BigInteger.valueOf(upper).gcd(java.math.BigInteger.valueOf(lower)).intValue();
        return (part == 0 ? upper : lower) / by;
    }

    private int fewestPairs(List<Integer> masks, int from, List<Integer> chosen, int used) {
        boolean all = true;
        for (int m : masks) {
            boolean one = false;
            for (int c : chosen) {
                one |= (m & c) == c;
            }
            all &= one;
        }
        if (all) {
            return chosen.size();
        }
        int best = 99;
        for (int code = from; code < 64; code++) {
            int a = code / 8;
            int b = code % 8;
            int pair = 1 << a | 1 << b;
            if (a < b && b < town.persons.size() && (pair & used) == 0) {
                chosen.add(pair);
                best = Math.min(best, fewestPairs(masks, code + 1, chosen, used | pair));
                chosen.remove(chosen.size() - 1);
            }
        }
        return best;
    }

    int leagues(int w, int k) {
        if (!inBase(w)) {
            return -2;
        }
        List<Integer> masks = new ArrayList<>();
        for (int s : counting(k)) {
            Saying x = sayings.get(s);
            if (x.surely && Integer.bitCount(x.persons) >= 2 && !so(x.row, w) && !masks.contains(x.persons)) {
                masks.add(x.persons);
            }
        }
        int n = fewestPairs(masks, 0, new ArrayList<>(), 0);
        return n == 99 ? NONE : n;
    }

    int plain(int k) {
        int best = NONE;
        int fewest = 99;
        for (int w : leftAt(k)) {
            int n = leagues(w, k);
            if (n != NONE && n < fewest) {
                fewest = n;
                best = w;
            }
        }
        return best;
    }

    int vote(int r, int w, int what) {
        if (!row(r) || !inBase(w) || what < 0 || what > 3) {
            return NONE;
        }
        IntUnaryOperator voice = p -> answer(p, r, w) == 1 ? 1 : answer(p, r, w) == 0 ? -1 : 0;
        int yes = 0;
        int no = 0;
        for (int p = 0; p < town.persons.size(); p++) {
            yes += voice.applyAsInt(p) == 1 ? 1 : 0;
            no += voice.applyAsInt(p) == -1 ? 1 : 0;
        }
        if (what < 3) {
            return what == 0 ? yes : what == 1 ? no : yes > no ? 1 : 0;
        }
        int best = 99;
        int[] voices = new int[town.persons.size()];
        for (int p = 0; p < voices.length; p++) {
            voices[p] = voice.applyAsInt(p);
        }
        for (int set = 0; set < 1 << town.ties.size(); set++) {
            List<Integer> ties = members16(set);
            if (ties.size() < best && apartFromEachOther(set)) {
                for (int like = 0; like < 1 << ties.size(); like++) {
                    int[] now = voices.clone();
                    for (int i = 0; i < ties.size(); i++) {
                        int v = (like >> i & 1) != 0 ? 1 : -1;
                        now[town.ties.get(ties.get(i)).one] = v;
                        now[town.ties.get(ties.get(i)).other] = v;
                    }
                    if (Arrays.stream(now).sum() > 0 != yes > no) {
                        best = Math.min(best, ties.size());
                    }
                }
            }
        }
        return best == 99 ? NONE : best;
    }

    private static List<Saying> copied(List<Saying> from) {
        List<Saying> out = new ArrayList<>();
        for (Saying s : from) {
            out.add(s.copy());
        }
        return out;
    }

    int image(int box) {
        if (box < 0 || box > 2) {
            return NONE;
        }
        boxes.set(box, copied(sayings));
        return sayings.size();
    }

    int back(int box) {
        if (box < 0 || box > 2 || boxes.get(box) == null) {
            return NONE;
        }
        sayings = copied(boxes.get(box));
        return sayings.size();
    }

    int about(int what) {
        switch (what) {
            case 0: return town.facts.size();
            case 1: return town.persons.size();
            case 2: return town.rows.size();
            case 3: return town.ties.size();
            case 4: return town.wishes.size();
            case 5: return sayings.size();
            case 6: return time;
            case 7: return tape.size();
            case 8: return town.units;
            case 9: return baseSize();
            default: return NONE;
        }
    }
}
