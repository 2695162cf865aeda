/** What the tests of edges share: a test of its own for each sentence, and short ways to say what is on the tape. */
class Edge {
    interface Test {
        void on(FilterForge x);
    }

    static final String END = "95 0 0 0 0";

    private static int tests = 0;
    private static int failed = 0;
    private static String sentence = "";
    private static boolean held = true;

    /** A test of a sentence of the document, on a new object. */
    static void test(String said, Test test) {
        sentence = said;
        held = true;
        test.on(new FilterForge());
        tests++;
        failed += held ? 0 : 1;
    }

    static void due(String call, long got, long want) {
        if (got != want) {
            held = false;
            System.out.println(sentence + " | " + call + " answered " + got + ", due is " + want);
        }
    }

    static void finish(String name) {
        System.out.println(name + ": " + tests + " tests of sentences, " + failed + " failed");
        System.exit(failed == 0 && tests > 0 ? 0 : 1);
    }

    /** The tape has just these bytes. */
    static void tape(FilterForge x, int... cells) {
        x.end(0);
        for (int i = 0; i < cells.length; i += 20) {
            int[] five = new int[5];
            for (int k = 0; k < 20; k++) {
                five[k / 4] = five[k / 4] << 8 | (i + k < cells.length ? cells[i + k] & 255 : 0);
            }
            x.feed(five[0], five[1], five[2], five[3], five[4]);
        }
        x.end(cells.length);
    }

    static void tape(FilterForge x, String text) {
        int[] cells = new int[text.length()];
        for (int i = 0; i < cells.length; i++) {
            cells[i] = text.charAt(i);
        }
        tape(x, cells);
    }

    static int packet(FilterForge x, int... cells) {
        tape(x, cells);
        return x.packet();
    }

    /** A packet of so many bytes, each of which is its place. */
    static int packetOf(FilterForge x, int size) {
        int[] cells = new int[size];
        for (int i = 0; i < size; i++) {
            cells[i] = i;
        }
        return packet(x, cells);
    }

    static int compile(FilterForge x, String text) {
        tape(x, text);
        return x.compile();
    }

    /** CODE (16), D, S (16), OFF, K. */
    static long instruction(String row) {
        String[] p = row.split(" ");
        return Long.parseLong(p[0], 16) | Long.parseLong(p[1], 16) << 8 | Long.parseLong(p[2], 16) << 12
            | (Long.parseLong(p[3]) & 0xFFFF) << 16 | Long.parseLong(p[4]) << 32;
    }

    /** Loads INSTRUCTIONS, each as above. */
    static int load(FilterForge x, String... rows) {
        int[] cells = new int[8 * rows.length];
        for (int i = 0; i < cells.length; i++) {
            cells[i] = (int) (instruction(rows[i / 8]) >>> 8 * (i % 8)) & 255;
        }
        tape(x, cells);
        return x.load();
    }

    /** Loads WORDS. */
    static int raw(FilterForge x, int... words) {
        int[] cells = new int[4 * words.length];
        for (int i = 0; i < cells.length; i++) {
            cells[i] = words[i / 4] >>> 8 * (i % 4) & 255;
        }
        tape(x, cells);
        return x.raw();
    }

    /** What the latest run told. */
    static void ended(FilterForge x, int trap, int steps, int place) {
        due("ended(0)", x.ended(0), trap);
        due("ended(1)", x.ended(1), steps);
        due("ended(2)", x.ended(2), place);
    }
}
