/**
 * A lie takes two: PERSONS who know some FACTS, ROWS of what may be so, SAYINGS, and a law by
 * which those who speak together may say what is not. The words in capitals are those of DOC.md.
 *
 * <p>A set of WORLDS is held as bits in up to four longs; many such sets stand in one array, each
 * WORDS longs behind the one ahead. All arrays are made with the object and used again, so that
 * no call makes a new one.
 */
public final class LieOfTwo {
    /** There is none. */
    public static final int NONE = -1;

    // The document answers -2 for four things.
    private static final int SOME = -2;
    private static final int SPENT = -2;
    private static final int NO_WORLD = -2;
    private static final int NO_ROW = -2;

    private static final int MOST_BYTES = 1600;
    private static final int MOST_FACTS = 8;
    private static final int MOST_PERSONS = 8;
    private static final int MOST_ROWS = 12;
    private static final int MOST_ALWAYS = 4;
    private static final int MOST_TIES = 12;
    private static final int MOST_WISHES = 12;
    private static final int MOST_SMALL = 99;
    private static final int MOST_UNITS = 80;
    private static final int DEEPEST = 7;
    private static final int MOST_SAYINGS = 40;
    private static final int MOST_PROVING = 10;
    private static final int MOST_BOXES = 3;
    private static final int MOST_TIME = 100000;
    private static final int MOST_STEP = 1000;
    private static final int TEN = 10;

    private static final int WORDS = 4;
    private static final int IN_WORD = 6;

    // A unit brings itself, a sign that joins it, and as many not, holds, thinks as can be nested.
    private static final int MOST_STEPS = MOST_UNITS * (DEEPEST + 2);
    // Three levels of binding wait at each depth, and one value is at work.
    private static final int MOST_WAITING = 3 * (DEEPEST + 1) + 1;

    // The faults.
    private static final int NO_TOKEN = 1;
    private static final int CANNOT_STAND = 2;
    private static final int TOLD_ALREADY = 3;
    private static final int BAD_NUMBER = 4;
    private static final int WRONG_KIND = 5;

    // The kinds of TOKENS: the kept words in this order; a sign's kind is its own number.
    private static final String KEPT =
        "fact person cost knows row always tie price wish worth law if or and not holds thinks voices apart tied ";
    private static final int FACT = 1;
    private static final int PERSON = 2;
    private static final int COST = 3;
    private static final int KNOWS = 4;
    private static final int ROW = 5;
    private static final int ALWAYS = 6;
    private static final int TIE = 7;
    private static final int PRICE = 8;
    private static final int WISH = 9;
    private static final int WORTH = 10;
    private static final int LAW = 11;
    private static final int IF = 12;
    private static final int OR = 13;
    private static final int AND = 14;
    private static final int NOT = 15;
    private static final int HOLDS = 16;
    private static final int THINKS = 17;
    private static final int VOICES = 18;
    private static final int APART = 19;
    private static final int TIED = 20;
    private static final int NAME = 21;
    private static final int NUMBER = 22;
    private static final int ENDED = 23;
    private static final int BROKEN = 24;

    // The WORLDS of one long in which a FACT is so, for the FACTS that change within a long.
    private static final long[] FACT_BITS = {
        0xAAAAAAAAAAAAAAAAL, 0xCCCCCCCCCCCCCCCCL, 0xF0F0F0F0F0F0F0F0L,
        0xFF00FF00FF00FF00L, 0xFFFF0000FFFF0000L, 0xFFFFFFFF00000000L
    };

    private final byte[] tape = new byte[MOST_BYTES];
    private int bytes;
    private Town here = new Town();
    private Town spare = new Town();
    private final Lines lines = new Lines(tape);
    private final Sayings sayings = new Sayings();
    private final Sayings[] boxes = {new Sayings(), new Sayings(), new Sayings()};
    private final Known known = new Known();
    private final Asker asker = new Asker();
    private final Pairing pairing = new Pairing();
    private final Covering covering = new Covering();
    private final long[] scratch = new long[WORDS];
    private int time;

    /** An empty TOWN. */
    public LieOfTwo() {
        lines.readInto(here, 0);
        lines.settle();
    }

    /** Puts twenty bytes on the TAPE. */
    public int feed(int a, int b, int c, int d, int e) {
        if (bytes + 20 > MOST_BYTES) {
            return NONE;
        }
        putFour(a);
        putFour(b);
        putFour(c);
        putFour(d);
        putFour(e);
        return bytes;
    }

    private void putFour(int number) {
        for (int shift = 24; shift >= 0 && bytes < MOST_BYTES; shift -= 8) {
            tape[bytes] = (byte) (number >> shift);
            bytes++;
        }
    }

    /** Leaves the first n bytes on the TAPE. */
    public int end(int n) {
        if (n < 0 || n > bytes) {
            return NONE;
        }
        bytes = n;
        return n;
    }

    /** Makes the TAPE the TOWN. */
    public int town() {
        int length = bytes;
        bytes = 0;
        lines.readInto(spare, length);
        if (lines.tokens.fault != 0) {
            return NONE;
        }
        lines.settle();
        Town old = here;
        here = spare;
        spare = old;
        sayings.count = 0;
        for (int box = 0; box < MOST_BOXES; box++) {
            boxes[box].kept = false;
        }
        return here.size();
    }

    /** The FAULT of the latest town(), or its place. */
    public int fault(int what) {
        if (what == 0) {
            return lines.tokens.fault;
        }
        return what == 1 ? lines.tokens.faultPlace : NONE;
    }

    /** Whether a ROW is so in a WORLD. */
    public int is(int row, int world) {
        if (!here.canBe(row, world)) {
            return NONE;
        }
        return here.isSo(row, world) ? 1 : 0;
    }

    /** What a PERSON answers about a ROW, ASKED apart. */
    public int answers(int person, int row, int world) {
        if (!here.hasPerson(person) || !here.canBe(row, world)) {
            return NONE;
        }
        return here.answer(person, row, world);
    }

    /** Whether PERSONS may LIE so. */
    public int lies(int persons, boolean apart, boolean surely) {
        if (!here.hasPersons(persons)) {
            return NONE;
        }
        return here.mayLie(persons, apart, surely) ? 1 : 0;
    }

    /** Whether PERSONS can say a ROW in a WORLD. */
    public int may(int persons, int row, boolean apart, boolean surely, int world) {
        if (!here.hasPersons(persons) || !here.canBe(row, world)) {
            return NONE;
        }
        here.putSayable(persons, row, apart, surely, scratch, 0);
        return has(scratch, 0, world) ? 1 : 0;
    }

    /** Tells a SAYING. */
    public int say(int persons, int row, boolean apart, boolean surely) {
        int number = sayings.count;
        if (!here.hasPersons(persons) || !here.hasRow(row) || number >= MOST_SAYINGS) {
            return NONE;
        }
        sayings.add(persons, row, surely, time);
        here.putSayable(persons, row, apart, surely, sayings.sayable, number * WORDS);
        return number;
    }

    /** Makes a SAYING an UNTOLD one. */
    public boolean untell(int saying) {
        if (saying < 0 || saying >= sayings.count || sayings.untold[saying] != NONE) {
            return false;
        }
        sayings.untold[saying] = time;
        return true;
    }

    /** Lets the TIME go on. */
    public int later(int by) {
        if (by < 0 || by > MOST_STEP || time + by > MOST_TIME) {
            return NONE;
        }
        time += by;
        return time;
    }

    /** How many WORLDS are LEFT. */
    public int left(int k) {
        known.look(here, sayings, k);
        return known.size;
    }

    /** The i-th WORLD that is LEFT. */
    public int world(int i, int k) {
        known.look(here, sayings, k);
        if (i < 0 || i >= known.size) {
            return NONE;
        }
        int ahead = 0;
        for (int world = 0; world < 1 << here.facts; world++) {
            if (has(known.open, 0, world)) {
                if (ahead == i) {
                    return world;
                }
                ahead++;
            }
        }
        return NONE;
    }

    /** Whether a ROW is SURE. */
    public int sure(int row, int k) {
        known.look(here, sayings, k);
        if (!here.hasRow(row) || known.size == 0) {
            return NONE;
        }
        int so = known.sizeOf(row);
        if (so == 0) {
            return 0;
        }
        return so == known.size ? 1 : SOME;
    }

    /** The fewest SAYINGS by which alone a ROW is SURE. */
    public int proof(int row, int k) {
        known.look(here, sayings, k);
        if (!here.hasRow(row) || known.size == 0 || known.sizeOf(row) != known.size) {
            return NONE;
        }
        return known.count > MOST_PROVING ? SPENT : known.fewestProving(row);
    }

    /** The first SAYING that could not be said in a WORLD. */
    public int judge(int world, int k) {
        if (!here.hasWorld(world)) {
            return NO_WORLD;
        }
        known.look(here, sayings, k);
        for (int i = 0; i < known.count; i++) {
            int saying = known.counting[i];
            if (!has(sayings.sayable, saying * WORDS, world)) {
                return saying;
            }
        }
        return NONE;
    }

    /** Whom to ask what NEXT. */
    public int next(int what, int k) {
        known.look(here, sayings, k);
        if (what < 0 || what > 2 || here.persons == 0 || here.rows == 0 || known.size == 0) {
            return NONE;
        }
        asker.choose(here, known);
        if (what == 0) {
            return asker.person;
        }
        return what == 1 ? asker.row : asker.greatest;
    }

    /** How many ASKINGS tell whether a ROW is so. */
    public int askings(int row, int k) {
        known.look(here, sayings, k);
        if (!here.hasRow(row) || known.size == 0) {
            return NO_ROW;
        }
        return asker.countAskings(here, known, row);
    }

    /** How many others a lie of two LASTS with. */
    public int lasts(int a, int b, int row, int world) {
        boolean two = here.hasPerson(a) && here.hasPerson(b) && a != b;
        if (!two || !here.canBe(row, world) || here.isSo(row, world)) {
            return NONE;
        }
        return here.fooled(1 << a | 1 << b, row, world);
    }

    /** WITH whom to lie best. */
    public int with(int person, int row, int world) {
        if (!here.hasPerson(person) || !here.canBe(row, world) || here.isSo(row, world)) {
            return NONE;
        }
        return here.bestPartner(person, row, world);
    }

    /** The ties at REST, or their GAIN. */
    public int rest(int world, int what) {
        if (!here.hasWorld(world) || what < 0 || what > 1) {
            return NONE;
        }
        pairing.settleGains(here, world);
        return what == 0 ? pairing.most : pairing.mostTies;
    }

    /** A part of the TRUTH of a ROW said by two. */
    public int truth(int row, int c, int d, int part, int k) {
        boolean odds = c >= 0 && c <= TEN && d >= 0 && d <= TEN;
        if (!odds || part < 0 || part > 1 || !here.hasRow(row)) {
            return NONE;
        }
        known.look(here, sayings, k);
        int so = known.sizeOf(row);
        int upper = so * c;
        int lower = upper + (known.size - so) * d;
        if (lower == 0) {
            return NONE;
        }
        int common = commonDivisor(lower, upper);
        return (part == 0 ? upper : lower) / common;
    }

    // Never 0, whatever it is given: it divides.
    private static int commonDivisor(int a, int b) {
        int greater = a;
        int less = b;
        for (int turn = 0; turn < 64 && less != 0; turn++) {
            int over = greater % less;
            greater = less;
            less = over;
        }
        return greater == 0 ? 1 : greater;
    }

    /** How many LEAGUES there must be in a WORLD. */
    public int leagues(int world, int k) {
        if (!here.hasWorld(world)) {
            return NO_WORLD;
        }
        known.look(here, sayings, k);
        covering.watch(here, sayings, known);
        int pairs = covering.fewestIn(world, MOST_PERSONS / 2);
        return pairs > MOST_PERSONS / 2 ? NONE : pairs;
    }

    /** The PLAIN WORLD. */
    public int plain(int k) {
        known.look(here, sayings, k);
        covering.watch(here, sayings, known);
        int best = NONE;
        int fewest = MOST_PERSONS / 2 + 1;
        for (int world = 0; world < 1 << here.facts && fewest > 0; world++) {
            if (has(known.open, 0, world)) {
                int pairs = covering.fewestIn(world, fewest - 1);
                if (pairs < fewest) {
                    fewest = pairs;
                    best = world;
                }
            }
        }
        return best;
    }

    /** A VOTE on a ROW in a WORLD. */
    public int vote(int row, int world, int what) {
        if (!here.canBe(row, world) || what < 0 || what > 3) {
            return NONE;
        }
        int yes = here.countAnswering(row, world, 1);
        int no = here.countAnswering(row, world, 0);
        switch (what) {
            case 0:
                return yes;
            case 1:
                return no;
            case 2:
                return yes > no ? 1 : 0;
            default:
                return pairing.fewestTurning(here, row, world, yes - no);
        }
    }

    /** Keeps the SAYINGS in a BOX. */
    public int image(int box) {
        if (box < 0 || box >= MOST_BOXES) {
            return NONE;
        }
        boxes[box].copy(sayings);
        boxes[box].kept = true;
        return sayings.count;
    }

    /** Makes the SAYINGS what they were in a BOX. */
    public int back(int box) {
        if (box < 0 || box >= MOST_BOXES || !boxes[box].kept) {
            return NONE;
        }
        sayings.copy(boxes[box]);
        return sayings.count;
    }

    /** How much there is of what. */
    public int about(int what) {
        switch (what) {
            case 0:
                return here.facts;
            case 1:
                return here.persons;
            case 2:
                return here.rows;
            case 3:
                return here.ties;
            case 4:
                return here.wishes;
            case 5:
                return sayings.count;
            case 6:
                return time;
            case 7:
                return bytes;
            case 8:
                return here.units;
            case 9:
                return here.size();
            default:
                return NONE;
        }
    }

    private static boolean has(long[] sets, int at, int world) {
        return (sets[at + (world >> IN_WORD)] >>> (world & 63) & 1L) != 0;
    }

    private static boolean hasBit(int bits, int i) {
        return (bits >> i & 1) != 0;
    }

    private static int sizeOfSet(long[] sets, int at, int words) {
        int size = 0;
        for (int word = 0; word < words; word++) {
            size += Long.bitCount(sets[at + word]);
        }
        return size;
    }

    /** What a text tells: its numbers, and the sets of WORLDS that follow from them. */
    private static final class Town {
        private int facts;
        private int persons;
        private int rows;
        private int ties;
        private int wishes;
        private int units;
        // How many longs a set of WORLDS needs with so many FACTS.
        private int words;
        // A bit for each way to speak, numbered by way(): 1 where they may LIE.
        private long law;
        private final int[] cost = new int[MOST_PERSONS];
        private final int[] knows = new int[MOST_PERSONS];
        private final int[] tiedTo = new int[MOST_PERSONS];
        private final int[] tieOne = new int[MOST_TIES];
        private final int[] tieOther = new int[MOST_TIES];
        private final int[] price = new int[MOST_TIES];
        private final int[] worth = new int[MOST_PERSONS * MOST_ROWS];
        private final long[] base = new long[WORDS];
        // By ROW; the bits of WORLDS that are none of BASE mean nothing.
        private final long[] so = new long[MOST_ROWS * WORDS];
        // By PERSON and ROW: where one holds it, and where one holds that it is not.
        private final long[] yes = new long[MOST_PERSONS * MOST_ROWS * WORDS];
        private final long[] no = new long[MOST_PERSONS * MOST_ROWS * WORDS];

        private Town() {
            clear();
        }

        private void clear() {
            facts = 0;
            persons = 0;
            rows = 0;
            ties = 0;
            wishes = 0;
            units = 0;
            for (int person = 0; person < MOST_PERSONS; person++) {
                tiedTo[person] = 0;
            }
            for (int i = 0; i < MOST_PERSONS * MOST_ROWS; i++) {
                worth[i] = NONE;
            }
        }

        private int size() {
            return sizeOfSet(base, 0, words);
        }

        private boolean hasRow(int row) {
            return row >= 0 && row < rows;
        }

        private boolean hasPerson(int person) {
            return person >= 0 && person < persons;
        }

        private boolean hasPersons(int bits) {
            return bits > 0 && bits < 1 << persons;
        }

        private boolean hasWorld(int world) {
            return world >= 0 && world < 1 << facts && has(base, 0, world);
        }

        private boolean canBe(int row, int world) {
            return hasRow(row) && hasWorld(world);
        }

        private boolean isSo(int row, int world) {
            return has(so, row * WORDS, world);
        }

        private int answer(int person, int row, int world) {
            int at = place(person, row);
            if (has(yes, at, world)) {
                return 1;
            }
            return has(no, at, world) ? 0 : 2;
        }

        private static int place(int person, int row) {
            return (person * MOST_ROWS + row) * WORDS;
        }

        private int countAnswering(int row, int world, int answer) {
            int count = 0;
            for (int person = 0; person < persons; person++) {
                if (answer(person, row, world) == answer) {
                    count++;
                }
            }
            return count;
        }

        private static int way(int voices, boolean apart, boolean tied, boolean thinks) {
            return voices - 1 << 3 | (apart ? 4 : 0) | (tied ? 2 : 0) | (thinks ? 1 : 0);
        }

        private boolean mayLie(int bits, boolean apart, boolean surely) {
            boolean tied = false;
            for (int person = 0; person < persons; person++) {
                tied |= hasBit(bits, person) && (bits & tiedTo[person]) != 0;
            }
            return (law >>> way(Integer.bitCount(bits), apart, tied, !surely) & 1L) != 0;
        }

        /** Puts the WORLDS in which PERSONS can say a ROW where they are wanted. */
        private void putSayable(int bits, int row, boolean apart, boolean surely, long[] to, int at) {
            System.arraycopy(base, 0, to, at, words);
            if (mayLie(bits, apart, surely)) {
                return;
            }
            for (int person = 0; person < persons; person++) {
                if (hasBit(bits, person)) {
                    int from = place(person, row);
                    for (int word = 0; word < words; word++) {
                        to[at + word] &= surely ? yes[from + word] : ~no[from + word];
                    }
                }
            }
        }

        /** Those but the liars who do not hold that a ROW is not so. */
        private int fooled(int liars, int row, int world) {
            int count = 0;
            for (int person = 0; person < persons; person++) {
                if (!hasBit(liars, person) && answer(person, row, world) != 0) {
                    count++;
                }
            }
            return count;
        }

        private int bestPartner(int person, int row, int world) {
            int best = NONE;
            int most = 0;
            for (int other = 0; other < persons; other++) {
                if (hasBit(tiedTo[person], other)) {
                    int fooled = fooled(1 << person | 1 << other, row, world);
                    int value = fooled * TEN - price[tieOf(person, other)];
                    if (best == NONE || value > most) {
                        best = other;
                        most = value;
                    }
                }
            }
            return best;
        }

        // Asked only of two who are tied, so the 0 behind the loop is never the answer.
        private int tieOf(int person, int other) {
            int two = 1 << person | 1 << other;
            for (int tie = 0; tie < ties; tie++) {
                if (pairOf(tie) == two) {
                    return tie;
                }
            }
            return 0;
        }

        private int pairOf(int tie) {
            return 1 << tieOne[tie] | 1 << tieOther[tie];
        }

        /** The most that both of a tie wish of one ROW that is not so. */
        private int mostWished(int tie, int world) {
            int most = 0;
            for (int row = 0; row < rows; row++) {
                int one = worth[tieOne[tie] * MOST_ROWS + row];
                int other = worth[tieOther[tie] * MOST_ROWS + row];
                if (one != NONE && other != NONE && !isSo(row, world)) {
                    most = Math.max(most, one + other);
                }
            }
            return most;
        }

        /** One long of the set of all WORLDS, be they of BASE or not. */
        private long allOfWord() {
            return facts >= IN_WORD ? -1L : (1L << (1 << facts)) - 1L;
        }

        /** Makes a set the WORLDS of BASE that a PERSON can't tell from one of BASE in it. */
        private void widen(long[] sets, int at, int person) {
            keepBase(sets, at);
            for (int fact = 0; fact < facts; fact++) {
                if (!hasBit(knows[person], fact)) {
                    forget(sets, at, fact);
                }
            }
            keepBase(sets, at);
        }

        private void keepBase(long[] sets, int at) {
            for (int word = 0; word < words; word++) {
                sets[at + word] &= base[word];
            }
        }

        /** Puts to each WORLD of a set the one that differs from it in a FACT alone. */
        private void forget(long[] sets, int at, int fact) {
            if (fact < IN_WORD) {
                int by = 1 << fact;
                long high = FACT_BITS[fact];
                for (int word = at; word < at + words; word++) {
                    long set = sets[word];
                    sets[word] = set | (set & high) >>> by | (set & ~high) << by;
                }
                return;
            }
            int by = 1 << fact - IN_WORD;
            for (int word = 0; word + by < words; word++) {
                if ((word & by) == 0) {
                    long both = sets[at + word] | sets[at + word + by];
                    sets[at + word] = both;
                    sets[at + word + by] = both;
                }
            }
        }

        /** Leaves the WORLDS of BASE in which a PERSON holds that one in a set is so. */
        private void keepHeld(long[] sets, int at, int person) {
            flip(sets, at);
            widen(sets, at, person);
            flip(sets, at);
        }

        private void flip(long[] sets, int at) {
            for (int word = 0; word < words; word++) {
                sets[at + word] = ~sets[at + word] & base[word];
            }
        }

        private void fillAnswers() {
            for (int person = 0; person < persons; person++) {
                for (int row = 0; row < rows; row++) {
                    int at = place(person, row);
                    System.arraycopy(so, row * WORDS, yes, at, words);
                    keepHeld(yes, at, person);
                    System.arraycopy(so, row * WORDS, no, at, words);
                    widen(no, at, person);
                    flip(no, at);
                }
            }
        }
    }

    /** The TOKENS of a text, one at a time, and the first fault. */
    private static final class Tokens {
        private final long[] keptNames = new long[TIED];
        private final byte[] text;
        private int length;
        private int at;
        private int kind;
        private int place;
        private int number;
        private long name;
        private int fault;
        private int faultPlace = NONE;

        private Tokens(byte[] text) {
            this.text = text;
            int word = 0;
            long spelled = 0;
            for (int i = 0; i < KEPT.length() && word < TIED; i++) {
                if (KEPT.charAt(i) == ' ') {
                    keptNames[word] = spelled;
                    word++;
                    spelled = 0;
                } else {
                    spelled = spell(spelled, KEPT.charAt(i));
                }
            }
        }

        // A word of eight letters fits in a long, five bits to a letter.
        private static long spell(long ahead, int letter) {
            return ahead * 32 + (letter - 'a' + 1);
        }

        private void start(int bytes) {
            length = bytes;
            at = 0;
            fault = 0;
            faultPlace = NONE;
            kind = ENDED;
            pass();
        }

        private boolean goesOn() {
            return kind != ENDED && kind != BROKEN;
        }

        /** Goes to the TOKEN behind; behind a fault there is none. */
        private void pass() {
            if (kind == BROKEN) {
                return;
            }
            while (at < length && isBlank(text[at])) {
                at++;
            }
            place = at;
            if (at >= length) {
                kind = ENDED;
            } else if (isLetter(text[at])) {
                readWord();
            } else if (isDigit(text[at])) {
                readNumber();
            } else if (isSign(text[at])) {
                kind = text[at];
                at++;
            } else {
                fail(NO_TOKEN);
            }
        }

        private static boolean isBlank(int sign) {
            return sign == ' ' || sign == '\n';
        }

        private static boolean isLetter(int sign) {
            return sign >= 'a' && sign <= 'z';
        }

        private static boolean isDigit(int sign) {
            return sign >= '0' && sign <= '9';
        }

        private static boolean isSign(int sign) {
            return sign == ';' || sign == '(' || sign == ')' || sign == '<' || sign == '>'
                || sign == '=' || sign == '+' || sign == '-';
        }

        private void readWord() {
            name = 0;
            while (at < length && isLetter(text[at])) {
                name = spell(name, text[at]);
                at++;
            }
            if (at - place > 8) {
                fail(NO_TOKEN);
                return;
            }
            kind = NAME;
            for (int word = 0; word < TIED; word++) {
                if (keptNames[word] == name) {
                    kind = word + 1;
                }
            }
        }

        private void readNumber() {
            number = 0;
            while (at < length && isDigit(text[at])) {
                number = number * 10 + (text[at] - '0');
                at++;
            }
            if (at - place > 4 || at < length && isLetter(text[at])) {
                fail(NO_TOKEN);
                return;
            }
            kind = NUMBER;
        }

        /** The first fault is the one; all is read from left to right. */
        private void fail(int what) {
            if (kind != BROKEN) {
                kind = BROKEN;
                fault = what;
                faultPlace = place;
            }
        }

        private void expect(int wanted) {
            if (kind == wanted) {
                pass();
            } else {
                fail(CANNOT_STAND);
            }
        }
    }

    /** Reads the lines of a text into a TOWN. */
    private static final class Lines {
        private final Tokens tokens;
        private final Steps steps = new Steps();
        private final long[] factNames = new long[MOST_FACTS];
        private final long[] personNames = new long[MOST_PERSONS];
        private final long[] rowNames = new long[MOST_ROWS];
        private final int[] rowStart = new int[MOST_ROWS];
        private final int[] rowEnd = new int[MOST_ROWS];
        private final boolean[] rowHolds = new boolean[MOST_ROWS];
        private final int[] alwaysStart = new int[MOST_ALWAYS];
        private final int[] alwaysEnd = new int[MOST_ALWAYS];
        private int always;
        private int lawStart;
        private int lawEnd;
        private boolean lawTold;
        // Of the e that is being read: whether holds, thinks can't stand in it, and whether one does.
        private boolean bare;
        private boolean holding;
        private Town town;

        private Lines(byte[] text) {
            tokens = new Tokens(text);
        }

        private void readInto(Town into, int length) {
            town = into;
            town.clear();
            steps.count = 0;
            always = 0;
            lawTold = false;
            tokens.start(length);
            for (int line = 0; line <= MOST_BYTES && tokens.goesOn(); line++) {
                switch (tokens.kind) {
                    case FACT:
                        readFact();
                        break;
                    case PERSON:
                        readPerson();
                        break;
                    case ROW:
                        readRow();
                        break;
                    case ALWAYS:
                        readAlways();
                        break;
                    case TIE:
                        readTie();
                        break;
                    case WISH:
                        readWish();
                        break;
                    case LAW:
                        readLaw();
                        break;
                    default:
                        tokens.fail(CANNOT_STAND);
                }
            }
        }

        private void begin(boolean room) {
            if (room) {
                tokens.pass();
            } else {
                tokens.fail(CANNOT_STAND);
            }
        }

        private boolean seesName() {
            if (tokens.kind != NAME) {
                tokens.fail(CANNOT_STAND);
            }
            return tokens.kind == NAME;
        }

        private int find(long[] names, int count) {
            for (int i = 0; i < count; i++) {
                if (names[i] == tokens.name) {
                    return i;
                }
            }
            return NONE;
        }

        private long readNewOfFactsAndRows() {
            if (seesName() && (findFact() != NONE || findRow() != NONE)) {
                tokens.fail(TOLD_ALREADY);
            }
            return takeName();
        }

        private long takeName() {
            long name = tokens.name;
            tokens.pass();
            return name;
        }

        private int findFact() {
            return find(factNames, town.facts);
        }

        private int findRow() {
            return find(rowNames, town.rows);
        }

        /** The PERSON named here, or NONE behind a fault. */
        private int seePerson() {
            int person = seesName() ? find(personNames, town.persons) : NONE;
            if (person == NONE) {
                tokens.fail(WRONG_KIND);
            }
            return person;
        }

        private int readSmall() {
            if (tokens.kind != NUMBER) {
                tokens.fail(CANNOT_STAND);
            } else if (tokens.number > MOST_SMALL) {
                tokens.fail(BAD_NUMBER);
            }
            int number = tokens.number;
            tokens.pass();
            return number;
        }

        private void readFact() {
            begin(town.facts < MOST_FACTS);
            long name = readNewOfFactsAndRows();
            tokens.expect(';');
            if (tokens.kind != BROKEN) {
                factNames[town.facts] = name;
                town.facts++;
            }
        }

        private void readPerson() {
            begin(town.persons < MOST_PERSONS);
            if (seesName() && find(personNames, town.persons) != NONE) {
                tokens.fail(TOLD_ALREADY);
            }
            long name = takeName();
            tokens.expect(COST);
            int cost = readSmall();
            int knows = 0;
            if (tokens.kind == KNOWS) {
                tokens.pass();
                knows = readKnown();
            }
            tokens.expect(';');
            if (tokens.kind != BROKEN) {
                personNames[town.persons] = name;
                town.cost[town.persons] = cost;
                town.knows[town.persons] = knows;
                town.persons++;
            }
        }

        private int readKnown() {
            int known = readFactBit(0);
            for (int turn = 0; turn < MOST_FACTS && tokens.kind == NAME; turn++) {
                known |= readFactBit(known);
            }
            return known;
        }

        private int readFactBit(int known) {
            int fact = seesName() ? findFact() : NONE;
            if (fact == NONE) {
                tokens.fail(WRONG_KIND);
                return 0;
            }
            if (hasBit(known, fact)) {
                tokens.fail(TOLD_ALREADY);
            }
            tokens.pass();
            return 1 << fact;
        }

        private void readRow() {
            begin(town.rows < MOST_ROWS);
            long name = readNewOfFactsAndRows();
            int start = steps.count;
            bare = false;
            holding = false;
            readE(0);
            int end = steps.count;
            tokens.expect(';');
            if (tokens.kind != BROKEN) {
                rowNames[town.rows] = name;
                rowStart[town.rows] = start;
                rowEnd[town.rows] = end;
                rowHolds[town.rows] = holding;
                town.rows++;
            }
        }

        private void readAlways() {
            begin(always < MOST_ALWAYS);
            int start = steps.count;
            bare = true;
            readE(0);
            int end = steps.count;
            tokens.expect(';');
            if (tokens.kind != BROKEN) {
                alwaysStart[always] = start;
                alwaysEnd[always] = end;
                always++;
            }
        }

        private void readTie() {
            begin(town.ties < MOST_TIES);
            int one = seePerson();
            tokens.pass();
            int other = seePerson();
            if (one != NONE && other != NONE && (one == other || hasBit(town.tiedTo[one], other))) {
                tokens.fail(TOLD_ALREADY);
            }
            tokens.pass();
            tokens.expect(PRICE);
            int price = readSmall();
            tokens.expect(';');
            if (tokens.kind != BROKEN && one != NONE && other != NONE) {
                town.tieOne[town.ties] = one;
                town.tieOther[town.ties] = other;
                town.price[town.ties] = price;
                town.tiedTo[one] |= 1 << other;
                town.tiedTo[other] |= 1 << one;
                town.ties++;
            }
        }

        private void readWish() {
            begin(town.wishes < MOST_WISHES);
            int person = seePerson();
            tokens.pass();
            int row = seesName() ? findRow() : NONE;
            if (row == NONE) {
                tokens.fail(WRONG_KIND);
            } else if (person != NONE && town.worth[person * MOST_ROWS + row] != NONE) {
                tokens.fail(TOLD_ALREADY);
            }
            tokens.pass();
            tokens.expect(WORTH);
            int worth = readSmall();
            tokens.expect(';');
            if (tokens.kind != BROKEN && person != NONE && row != NONE) {
                town.worth[person * MOST_ROWS + row] = worth;
                town.wishes++;
            }
        }

        private void readLaw() {
            begin(!lawTold);
            lawTold = true;
            lawStart = steps.count;
            readF(0);
            lawEnd = steps.count;
            tokens.expect(';');
        }

        private void readE(int depth) {
            readAlt(depth);
            if (tokens.kind == IF) {
                tokens.pass();
                readAlt(depth);
                steps.add(IF, 0);
            }
        }

        private void readAlt(int depth) {
            readBoth(depth);
            for (int turn = 0; turn < MOST_UNITS && tokens.kind == OR; turn++) {
                tokens.pass();
                readBoth(depth);
                steps.add(OR, 0);
            }
        }

        private void readBoth(int depth) {
            readOne(depth);
            for (int turn = 0; turn < MOST_UNITS && tokens.kind == AND; turn++) {
                tokens.pass();
                readOne(depth);
                steps.add(AND, 0);
            }
        }

        private void readOne(int depth) {
            int sign = tokens.kind;
            boolean minds = sign == HOLDS || sign == THINKS;
            if (sign != NOT && !minds) {
                readUnit(depth);
                return;
            }
            if (depth >= DEEPEST || minds && bare) {
                tokens.fail(CANNOT_STAND);
                return;
            }
            tokens.pass();
            int person = 0;
            if (minds) {
                holding = true;
                person = seePerson();
                tokens.pass();
            }
            readOne(depth + 1);
            steps.add(sign, person);
        }

        /** Counts a unit, if one can begin here. */
        private boolean takesUnit(boolean begins, int depth) {
            boolean deep = tokens.kind == '(' && depth >= DEEPEST;
            if (!begins || deep || town.units >= MOST_UNITS) {
                tokens.fail(CANNOT_STAND);
                return false;
            }
            town.units++;
            return true;
        }

        private void readUnit(int depth) {
            boolean opens = tokens.kind == '(';
            if (!takesUnit(opens || tokens.kind == NAME, depth)) {
                return;
            }
            if (opens) {
                tokens.pass();
                readE(depth + 1);
                tokens.expect(')');
                return;
            }
            int fact = findFact();
            int row = findRow();
            if (fact != NONE) {
                steps.add(FACT, fact);
            } else if (row != NONE && !(bare && rowHolds[row])) {
                holding |= rowHolds[row];
                steps.add(ROW, row);
            } else {
                tokens.fail(WRONG_KIND);
            }
            tokens.pass();
        }

        private void readF(int depth) {
            readAny(depth);
            for (int turn = 0; turn < MOST_UNITS && tokens.kind == OR; turn++) {
                tokens.pass();
                readAny(depth);
                steps.add(OR, 0);
            }
        }

        private void readAny(int depth) {
            readSum(depth);
            int sign = tokens.kind;
            if (sign == '<' || sign == '>' || sign == '=') {
                tokens.pass();
                readSum(depth);
                steps.add(sign, 0);
            }
        }

        private void readSum(int depth) {
            readPart(depth);
            for (int turn = 0; turn < MOST_UNITS && (tokens.kind == '+' || tokens.kind == '-'); turn++) {
                int sign = tokens.kind;
                tokens.pass();
                readPart(depth);
                steps.add(sign, 0);
            }
        }

        private void readPart(int depth) {
            int sign = tokens.kind;
            boolean names = sign == VOICES || sign == APART || sign == TIED || sign == THINKS;
            if (!takesUnit(names || sign == NUMBER || sign == '(', depth)) {
                return;
            }
            if (sign == '(') {
                tokens.pass();
                readF(depth + 1);
                tokens.expect(')');
            } else {
                steps.add(sign, sign == NUMBER ? tokens.number : 0);
                tokens.pass();
            }
        }

        /** Makes the sets of a text without a fault: ROWS that hold need the BASE, the BASE the others. */
        private void settle() {
            town.words = town.facts <= IN_WORD ? 1 : 1 << town.facts - IN_WORD;
            fillLaw();
            fillRows(false);
            for (int word = 0; word < town.words; word++) {
                town.base[word] = town.allOfWord();
            }
            for (int i = 0; i < always; i++) {
                steps.putSet(town, alwaysStart[i], alwaysEnd[i]);
                town.keepBase(steps.sets, 0);
                System.arraycopy(steps.sets, 0, town.base, 0, town.words);
            }
            fillRows(true);
            town.fillAnswers();
        }

        private void fillRows(boolean holds) {
            for (int row = 0; row < town.rows; row++) {
                if (rowHolds[row] == holds) {
                    steps.putSet(town, rowStart[row], rowEnd[row]);
                    System.arraycopy(steps.sets, 0, town.so, row * WORDS, town.words);
                }
            }
        }

        private void fillLaw() {
            town.law = 0;
            for (int way = 0; way < town.persons << 3; way++) {
                boolean lies = lawTold
                    ? steps.value(lawStart, lawEnd, way) != 0
                    : way >> 3 > 0;
                if (lies) {
                    town.law |= 1L << way;
                }
            }
        }
    }

    /** What is told of ROWS, always and law, each sign behind what it works on. */
    private static final class Steps {
        private final int[] steps = new int[MOST_STEPS];
        private int count;
        private final long[] sets = new long[MOST_WAITING * WORDS];
        private final int[] numbers = new int[MOST_WAITING];

        private void add(int sign, int of) {
            if (count < MOST_STEPS) {
                steps[count] = of << 8 | sign;
                count++;
            }
        }

        /** Puts the WORLDS in which an e is so first in the sets. */
        private void putSet(Town town, int start, int end) {
            int top = 0;
            for (int i = start; i < end; i++) {
                int sign = steps[i] & 255;
                int of = steps[i] >> 8;
                if (sign == FACT || sign == ROW) {
                    if (top < MOST_WAITING) {
                        push(town, sign, of, top * WORDS);
                        top++;
                    }
                } else if (sign == AND || sign == OR || sign == IF) {
                    if (top > 1) {
                        top--;
                        join(town, sign, (top - 1) * WORDS);
                    }
                } else if (top > 0) {
                    change(town, sign, of, (top - 1) * WORDS);
                }
            }
        }

        private void push(Town town, int sign, int of, int at) {
            for (int word = 0; word < town.words; word++) {
                if (sign == ROW) {
                    sets[at + word] = town.so[of * WORDS + word];
                } else if (of < IN_WORD) {
                    sets[at + word] = FACT_BITS[of] & town.allOfWord();
                } else {
                    sets[at + word] = hasBit(word, of - IN_WORD) ? -1L : 0L;
                }
            }
        }

        private void join(Town town, int sign, int at) {
            for (int word = 0; word < town.words; word++) {
                long one = sets[at + word];
                long other = sets[at + WORDS + word];
                if (sign == AND) {
                    sets[at + word] = one & other;
                } else if (sign == OR) {
                    sets[at + word] = one | other;
                } else {
                    sets[at + word] = one | ~other & town.allOfWord();
                }
            }
        }

        private void change(Town town, int sign, int of, int at) {
            if (sign == HOLDS) {
                town.keepHeld(sets, at, of);
            } else if (sign == THINKS) {
                town.widen(sets, at, of);
            } else {
                for (int word = 0; word < town.words; word++) {
                    sets[at + word] = ~sets[at + word] & town.allOfWord();
                }
            }
        }

        /** What an f is for a way to speak. */
        private int value(int start, int end, int way) {
            int top = 0;
            for (int i = start; i < end; i++) {
                int sign = steps[i] & 255;
                if (sign == NUMBER || sign == VOICES || sign == APART || sign == TIED || sign == THINKS) {
                    if (top < MOST_WAITING) {
                        numbers[top] = sign == NUMBER ? steps[i] >> 8 : ofWay(sign, way);
                        top++;
                    }
                } else if (top > 1) {
                    top--;
                    numbers[top - 1] = joined(sign, numbers[top - 1], numbers[top]);
                }
            }
            return top > 0 ? numbers[0] : 0;
        }

        // The other way round than Town.way().
        private static int ofWay(int sign, int way) {
            switch (sign) {
                case VOICES:
                    return (way >> 3) + 1;
                case APART:
                    return way >> 2 & 1;
                case TIED:
                    return way >> 1 & 1;
                default:
                    return way & 1;
            }
        }

        private static int joined(int sign, int one, int other) {
            switch (sign) {
                case '+':
                    return one + other;
                case '-':
                    return one - other;
                case '<':
                    return one < other ? 1 : 0;
                case '>':
                    return one > other ? 1 : 0;
                case '=':
                    return one == other ? 1 : 0;
                default:
                    return one != 0 || other != 0 ? 1 : 0;
            }
        }
    }

    /** SAYINGS as TOLD and UNTOLD. */
    private static final class Sayings {
        private int count;
        private boolean kept;
        private final int[] persons = new int[MOST_SAYINGS];
        private final int[] rows = new int[MOST_SAYINGS];
        private final boolean[] surely = new boolean[MOST_SAYINGS];
        private final int[] told = new int[MOST_SAYINGS];
        private final int[] untold = new int[MOST_SAYINGS];
        // The WORLDS of BASE in which each can be said.
        private final long[] sayable = new long[MOST_SAYINGS * WORDS];

        private void add(int who, int row, boolean isSure, int time) {
            persons[count] = who;
            rows[count] = row;
            surely[count] = isSure;
            told[count] = time;
            untold[count] = NONE;
            count++;
        }

        private boolean counts(int saying, int k) {
            boolean gone = untold[saying] != NONE && untold[saying] <= k;
            return told[saying] <= k && !gone;
        }

        private void copy(Sayings from) {
            count = from.count;
            System.arraycopy(from.persons, 0, persons, 0, count);
            System.arraycopy(from.rows, 0, rows, 0, count);
            System.arraycopy(from.surely, 0, surely, 0, count);
            System.arraycopy(from.told, 0, told, 0, count);
            System.arraycopy(from.untold, 0, untold, 0, count);
            System.arraycopy(from.sayable, 0, sayable, 0, count * WORDS);
        }
    }

    /** What is known at one TIME: the SAYINGS that count, and the WORLDS that are LEFT. */
    private static final class Known {
        private Town town;
        private Sayings sayings;
        private final int[] counting = new int[MOST_SAYINGS];
        private int count;
        private final long[] open = new long[WORDS];
        private int size;

        private void look(Town at, Sayings of, int k) {
            town = at;
            sayings = of;
            count = 0;
            System.arraycopy(town.base, 0, open, 0, town.words);
            for (int saying = 0; saying < sayings.count; saying++) {
                if (sayings.counts(saying, k)) {
                    counting[count] = saying;
                    count++;
                    for (int word = 0; word < town.words; word++) {
                        open[word] &= sayings.sayable[saying * WORDS + word];
                    }
                }
            }
            size = sizeOfSet(open, 0, town.words);
        }

        /** In how many WORLDS LEFT a ROW is so. */
        private int sizeOf(int row) {
            return sizeWith(town.so, row * WORDS);
        }

        private int sizeWith(long[] sets, int at) {
            int both = 0;
            for (int word = 0; word < town.words; word++) {
                both += Long.bitCount(open[word] & sets[at + word]);
            }
            return both;
        }

        private int fewestProving(int row) {
            int best = NONE;
            int fewest = MOST_PROVING + 1;
            for (int set = 0; set < 1 << count; set++) {
                int size = Integer.bitCount(set);
                if (size < fewest && proves(set, row)) {
                    best = set;
                    fewest = size;
                }
            }
            return best;
        }

        private boolean proves(int set, int row) {
            for (int word = 0; word < town.words; word++) {
                long against = town.base[word] & ~town.so[row * WORDS + word];
                for (int i = 0; i < count; i++) {
                    if (hasBit(set, i)) {
                        against &= sayings.sayable[counting[i] * WORDS + word];
                    }
                }
                if (against != 0) {
                    return false;
                }
            }
            return true;
        }
    }

    /** Whom to ask apart, and how often. */
    private static final class Asker {
        private Town town;
        private int person;
        private int row;
        private int greatest;
        private int sought;
        // The WORLDS LEFT, and behind them those with each answer to the first asking.
        private final long[] sets = new long[4 * WORDS];

        private void choose(Town at, Known known) {
            town = at;
            person = NONE;
            for (int one = 0; one < town.persons; one++) {
                for (int about = 0; about < town.rows; about++) {
                    int place = Town.place(one, about);
                    int yes = known.sizeWith(town.yes, place);
                    int no = known.sizeWith(town.no, place);
                    int most = Math.max(Math.max(yes, no), known.size - yes - no);
                    if (person == NONE || most < greatest
                        || most == greatest && town.cost[one] < town.cost[person]) {
                        person = one;
                        row = about;
                        greatest = most;
                    }
                }
            }
        }

        private int countAskings(Town at, Known known, int about) {
            town = at;
            sought = about * WORDS;
            System.arraycopy(known.open, 0, sets, 0, town.words);
            if (isTold(0)) {
                return 0;
            }
            if (oneIsEnough(0)) {
                return 1;
            }
            return twoAreEnough() ? 2 : NONE;
        }

        /** Whether a ROW is so in all of a set, or in none of it. */
        private boolean isTold(int at) {
            boolean inSome = false;
            boolean outSome = false;
            for (int word = 0; word < town.words; word++) {
                long set = sets[at + word];
                inSome |= (set & town.so[sought + word]) != 0;
                outSome |= (set & ~town.so[sought + word]) != 0;
            }
            return !inSome || !outSome;
        }

        private boolean oneIsEnough(int at) {
            for (int one = 0; one < town.persons; one++) {
                for (int about = 0; about < town.rows; about++) {
                    if (tells(at, Town.place(one, about))) {
                        return true;
                    }
                }
            }
            return false;
        }

        /** Whether each answer to one asking leaves no doubt of the ROW. */
        private boolean tells(int at, int place) {
            int in = 0;
            int out = 0;
            for (int word = 0; word < town.words; word++) {
                long set = sets[at + word];
                long yes = town.yes[place + word];
                long no = town.no[place + word];
                in |= answersIn(set & town.so[sought + word], yes, no);
                out |= answersIn(set & ~town.so[sought + word], yes, no);
                if ((in & out) != 0) {
                    return false;
                }
            }
            return true;
        }

        private static int answersIn(long set, long yes, long no) {
            return ((set & yes) != 0 ? 1 : 0)
                | ((set & no) != 0 ? 2 : 0)
                | ((set & ~(yes | no)) != 0 ? 4 : 0);
        }

        private boolean twoAreEnough() {
            for (int one = 0; one < town.persons; one++) {
                for (int about = 0; about < town.rows; about++) {
                    split(Town.place(one, about));
                    if (eachIsTold()) {
                        return true;
                    }
                }
            }
            return false;
        }

        private void split(int place) {
            for (int word = 0; word < town.words; word++) {
                long yes = sets[word] & town.yes[place + word];
                long no = sets[word] & town.no[place + word];
                sets[WORDS + word] = yes;
                sets[2 * WORDS + word] = no;
                sets[3 * WORDS + word] = sets[word] & ~(yes | no);
            }
        }

        private boolean eachIsTold() {
            for (int at = WORDS; at <= 3 * WORDS; at += WORDS) {
                if (!isTold(at) && (isWhole(at) || !oneIsEnough(at))) {
                    return false;
                }
            }
            return true;
        }

        // One asking more was not enough for the whole already.
        private boolean isWhole(int at) {
            for (int word = 0; word < town.words; word++) {
                if (sets[at + word] != sets[word]) {
                    return false;
                }
            }
            return true;
        }
    }

    /** Sets of ties in which no PERSON is twice. */
    private static final class Pairing {
        private Town town;
        private final int[] gain = new int[MOST_TIES];
        private int most;
        private int mostTies;
        private int wanted;
        private int fewest;

        private void settleGains(Town at, int world) {
            town = at;
            for (int tie = 0; tie < town.ties; tie++) {
                gain[tie] = town.mostWished(tie, world) - 2 * town.price[tie];
            }
            most = 0;
            mostTies = 0;
            seekMost(0, 0, 0, 0);
        }

        // A tie without GAIN only makes the number greater, so it is never taken.
        private void seekMost(int tie, int used, int sum, int taken) {
            if (sum > most || sum == most && taken < mostTies) {
                most = sum;
                mostTies = taken;
            }
            for (int more = tie; more < town.ties; more++) {
                int pair = town.pairOf(more);
                if (gain[more] > 0 && (used & pair) == 0) {
                    seekMost(more + 1, used | pair, sum + gain[more], taken | 1 << more);
                }
            }
        }

        private int fewestTurning(Town at, int row, int world, int lead) {
            town = at;
            boolean carried = lead > 0;
            wanted = carried ? lead : 1 - lead;
            fewest = MOST_TIES + 1;
            for (int tie = 0; tie < town.ties; tie++) {
                int now = voice(town.tieOne[tie], row, world) + voice(town.tieOther[tie], row, world);
                gain[tie] = carried ? 2 + now : 2 - now;
            }
            seekFewest(0, 0, 0, 0);
            return fewest > MOST_TIES ? NONE : fewest;
        }

        private int voice(int person, int row, int world) {
            int answer = town.answer(person, row, world);
            if (answer == 1) {
                return 1;
            }
            return answer == 0 ? -1 : 0;
        }

        private void seekFewest(int tie, int used, int sum, int count) {
            if (count >= fewest) {
                return;
            }
            if (sum >= wanted) {
                fewest = count;
                return;
            }
            for (int more = tie; more < town.ties; more++) {
                int pair = town.pairOf(more);
                if ((used & pair) == 0) {
                    seekFewest(more + 1, used | pair, sum + gain[more], count + 1);
                }
            }
        }
    }

    /** The fewest pairs by which SAYINGS of more than one that are not so are all explained. */
    private static final class Covering {
        private static final int TOO_MANY = MOST_PERSONS;
        private Town town;
        private Sayings sayings;
        private Known known;
        // By two PERSONS: the SAYINGS, as bits, that have both.
        private final long[] having = new long[MOST_PERSONS * MOST_PERSONS];
        // The SAYINGS, as bits, that a league must stand behind where they are not so.
        private long watched;

        private void watch(Town at, Sayings of, Known as) {
            town = at;
            sayings = of;
            known = as;
            watched = 0;
            for (int pair = 0; pair < MOST_PERSONS * MOST_PERSONS; pair++) {
                having[pair] = 0;
            }
            for (int i = 0; i < known.count; i++) {
                int saying = known.counting[i];
                if (sayings.surely[saying] && Integer.bitCount(sayings.persons[saying]) > 1) {
                    watched |= 1L << saying;
                    notePairs(saying);
                }
            }
        }

        private void notePairs(int saying) {
            int persons = sayings.persons[saying];
            for (int one = 0; one < town.persons; one++) {
                for (int other = one + 1; other < town.persons; other++) {
                    if (hasBit(persons, one) && hasBit(persons, other)) {
                        having[one * MOST_PERSONS + other] |= 1L << saying;
                    }
                }
            }
        }

        /** The fewest pairs in a WORLD, TOO_MANY if there are more than the most allowed. */
        private int fewestIn(int world, int most) {
            long open = 0;
            for (int i = 0; i < known.count; i++) {
                int saying = known.counting[i];
                if ((watched >>> saying & 1L) != 0 && !town.isSo(sayings.rows[saying], world)) {
                    open |= 1L << saying;
                }
            }
            return fewestFor(open, 0, most);
        }

        private int fewestFor(long open, int used, int most) {
            if (open == 0) {
                return 0;
            }
            int free = most > 0 ? tightest(open, used) : 0;
            int best = TOO_MANY;
            for (int one = 0; one < town.persons; one++) {
                for (int other = one + 1; other < town.persons; other++) {
                    if (hasBit(free, one) && hasBit(free, other)) {
                        long rest = open & ~having[one * MOST_PERSONS + other];
                        int mostMore = Math.min(most, best - 1) - 1;
                        if (mostMore >= 0) {
                            int pairs = 1 + fewestFor(rest, used | 1 << one | 1 << other, mostMore);
                            best = Math.min(best, pairs);
                        }
                    }
                }
            }
            return best;
        }

        /** The fewest PERSONS without a pair that one open SAYING has: one pair must be of these. */
        private int tightest(long open, int used) {
            int best = NONE;
            for (int i = 0; i < known.count; i++) {
                int saying = known.counting[i];
                if ((open >>> saying & 1L) != 0) {
                    int free = sayings.persons[saying] & ~used;
                    if (best == NONE || Integer.bitCount(free) < Integer.bitCount(best)) {
                        best = free;
                    }
                }
            }
            return best;
        }
    }
}
