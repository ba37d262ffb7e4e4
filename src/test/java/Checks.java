import java.io.IOException;
import java.nio.charset.StandardCharsets;
import java.nio.file.Files;
import java.nio.file.Path;

/** What the tests written by hand share: calls with the answers that are due, and texts put on the TAPE. */
abstract class Checks {
    /** Two FACTS, three PERSONS, four ROWS, two ties, two wishes; four WORLDS. */
    static final String HOUSE = "fact rain; fact home; person ann cost 1 knows rain; person bob cost 2 knows home;"
        + "person cyd cost 3; row wet rain; row out not home; row two rain and home; row annk holds ann rain;"
        + "tie ann bob price 3; tie bob cyd price 1; wish ann wet worth 5; wish bob wet worth 7;";

    static final int LEAST = Integer.MIN_VALUE;
    static final int MOST = Integer.MAX_VALUE;

    private static final long PATIENCE = 300_000;
    private static int wrong;
    private static int checks;
    private static int tests;
    private static String name = "";
    private static String document = "";

    /** The words of the document that tests are named by must stand in it, if it is where it should be. */
    static void begin(String[] args) {
        endSomeTime();
        Path path = Path.of(args.length > 0 ? args[0] : ".", "..", "shared", "DOC.md");
        if (Files.exists(path)) {
            try {
                document = Files.readString(path, StandardCharsets.UTF_8).replaceAll("\\s+", " ");
            } catch (IOException e) {
                throw new IllegalStateException(e);
            }
        }
    }

    // A call that fails to end is a fault like another.
    private static void endSomeTime() {
        Thread watch = new Thread(() -> {
            try {
                Thread.sleep(PATIENCE);
            } catch (InterruptedException e) {
                return;
            }
            System.out.println("no end: " + name);
            Runtime.getRuntime().halt(1);
        });
        watch.setDaemon(true);
        watch.start();
    }

    /** One test, named by the words of the document that it is about. */
    static void test(String words, Runnable calls) {
        tests++;
        name = words;
        if (!document.isEmpty() && !document.contains(words)) {
            wrong++;
            System.out.println("not in the document: " + words);
        }
        int before = checks;
        try {
            calls.run();
        } catch (RuntimeException | StackOverflowError e) {
            wrong++;
            System.out.println(words + ": threw " + e);
        }
        if (checks == before) {
            wrong++;
            System.out.println("nothing looked at: " + words);
        }
    }

    static void section(String words) {
        name = words;
    }

    static void end() {
        System.out.println((tests > 0 ? tests + " tests, " : "") + checks + " checks, " + wrong + " wrong");
        System.exit(wrong == 0 ? 0 : 1);
    }

    static void due(String call, int got, int want) {
        checks++;
        if (got != want) {
            wrong++;
            System.out.println(name + ": " + call + " answered " + got + ", due is " + want);
        }
    }

    static void due(String call, boolean got, boolean want) {
        due(call, got ? 1 : 0, want ? 1 : 0);
    }

    /** Feeds a text, cut to its length. */
    static void tape(LieOfTwo x, String text) {
        byte[] bytes = text.getBytes(StandardCharsets.ISO_8859_1);
        int start = x.about(7);
        for (int at = 0; at < bytes.length; at += 20) {
            int[] n = new int[5];
            for (int i = 0; i < 20; i++) {
                int b = at + i < bytes.length ? bytes[at + i] & 255 : 32;
                n[i / 4] = n[i / 4] << 8 | b;
            }
            x.feed(n[0], n[1], n[2], n[3], n[4]);
        }
        x.end(start + bytes.length);
    }

    static int town(LieOfTwo x, String text) {
        tape(x, text);
        return x.town();
    }

    static LieOfTwo of(String text) {
        LieOfTwo x = new LieOfTwo();
        due("town of " + text, town(x, text) == -1, false);
        return x;
    }

    /** The text has this fault at this place. */
    static void faulty(String text, int what, int place) {
        LieOfTwo x = of(HOUSE);
        due("town() of " + text, town(x, text), -1);
        due("fault(0) of " + text, x.fault(0), what);
        due("fault(1) of " + text, x.fault(1), place);
        due("the town ahead of " + text, x.about(0), 2);
        due("the tape behind " + text, x.about(7), 0);
    }

    /** The text behind the good one has this fault at its first byte. */
    static void faultyBehind(String good, String text, int what) {
        faulty(good + text, what, good.length());
    }

    static void good(String text) {
        LieOfTwo x = new LieOfTwo();
        town(x, text);
        due("fault(0) of " + text, x.fault(0), 0);
        due("fault(1) of " + text, x.fault(1), -1);
    }

    static String times(String text, int n) {
        return text.repeat(n);
    }

    /** So many lines, each with another letter for the star, from a on. */
    static String lines(String line, int n) {
        StringBuilder b = new StringBuilder();
        for (int i = 0; i < n; i++) {
            b.append(line.replace('*', (char) ('a' + i)));
        }
        return b.toString();
    }
}
