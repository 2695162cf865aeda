import java.util.ArrayList;
import java.util.Arrays;
import java.util.List;
import java.util.Random;

/**
 * Calls by chance on one object, up to its 512th (always the same ones). What each of them is due to answer is told by a
 * new object that has just what the call is about, and nothing of what came ahead (promises 1 to 20: "for every run of
 * calls").
 */
public final class FreshTest {
    private static final String[] TEXTS = {"tcp", "ip", "not ip6", "tcp port 80", "port 1 or port 2", "src portrange 1-2000",
        "ip and ip", "ip or arp or ip", "tcp[13]&2!=0", "ether[12:2]={2048}or ip", "len/ip[0]=1", "len%0=1", "host 10.0.0.1",
        "dst net 10.0.0.0/8", "less 40", "greater 41", "udp[0:2]=tcp[0:2]", "icmp", "ip proto 6", "ether proto 34525",
        "len=1 or len=2 or len=3", "--len<<{3+ether[0]}>ether[len-1]", "ip and", "(tcp", "port 65536", "len", "", "!",
        "net 10.0.0.1/8", "tcp and not udp and not icmp"};
    private static int wrong = 0;
    private static int compared = 0;

    // What the object at hand is due to have.
    private Random chance;
    private FilterForge x;
    private byte[] tape;
    private final List<byte[]> packets = new ArrayList<>();
    private Maker program;
    private Maker filter;
    private Maker object;
    private Maker looked;
    private Maker ran;
    private int ranOn;
    private String call;

    /** What brings a new object to a PROGRAM, a FILTER, an OBJECT. */
    private static final class Maker {
        private static final int COMPILED = 0;
        private static final int LOADED = 1;
        private static final int RAW = 2;
        private static final int TRANSLATED = 3;

        private final int kind;
        private final byte[] bytes;
        private final Maker of;

        Maker(int kind, byte[] bytes, Maker of) {
            this.kind = kind;
            this.bytes = bytes;
            this.of = of;
        }

        int on(FilterForge y) {
            if (kind == TRANSLATED) {
                of.on(y);
                return y.translate();
            }
            feed(y, bytes);
            return kind == COMPILED ? y.compile() : kind == LOADED ? y.load() : y.raw();
        }
    }

    private static void feed(FilterForge y, byte[] row) {
        for (int i = 0; i < row.length; i += 20) {
            int[] five = new int[5];
            for (int k = 0; k < 20; k++) {
                five[k / 4] = five[k / 4] << 8 | (i + k < row.length ? row[i + k] & 255 : 0);
            }
            y.feed(five[0], five[1], five[2], five[3], five[4]);
        }
        y.end(row.length);
    }

    private void due(String what, long got, long want) {
        compared++;
        if (got != want) {
            wrong++;
            System.out.println("behind " + call + ": " + what + " answered " + got + ", due is " + want);
        }
    }

    private FilterForge fresh(Maker maker) {
        FilterForge y = new FilterForge();
        if (maker != null) {
            maker.on(y);
        }
        return y;
    }

    private FilterForge withPackets(Maker maker) {
        FilterForge y = fresh(maker);
        for (byte[] p : packets) {
            feed(y, p);
            y.packet();
        }
        return y;
    }

    // ---- what is put on the TAPE
    private byte[] someText() {
        String s = TEXTS[chance.nextInt(TEXTS.length)];
        for (int more = chance.nextInt(4); more > 0; more--) {
            s += (chance.nextBoolean() ? " or " : " and ") + TEXTS[chance.nextInt(TEXTS.length)];
        }
        return s.getBytes(java.nio.charset.StandardCharsets.ISO_8859_1);
    }

    private byte[] somePacket() {
        byte[] p = new byte[chance.nextInt(20) == 0 ? 257 : chance.nextInt(70)];
        chance.nextBytes(p);
        int[] frame = {8, 0, 69, 0, 0, 40, 0, 0, 0, 0, 64, 6};
        for (int i = 0; i < frame.length && 12 + i < p.length && chance.nextInt(3) > 0; i++) {
            p[12 + i] = (byte) frame[i];
        }
        return p;
    }

    /** INSTRUCTIONS of a filter, perhaps with a change, perhaps not all of them. */
    private byte[] someProgram() {
        FilterForge y = new FilterForge();
        feed(y, someText());
        int n = Math.max(1, Math.min(200, y.compile()));
        n = chance.nextInt(4) == 0 ? 1 + chance.nextInt(n) : n;
        byte[] row = new byte[8 * n];
        for (int i = 0; i < row.length; i++) {
            row[i] = (byte) (y.instruction(i / 8) >> 8 * (i % 8));
        }
        for (int changes = chance.nextInt(3); changes > 0; changes--) {
            row[chance.nextInt(row.length)] ^= (byte) (1 << chance.nextInt(8));
        }
        return chance.nextInt(12) == 0 ? Arrays.copyOf(row, row.length - 1) : row;
    }

    private byte[] someWords() {
        FilterForge y = new FilterForge();
        feed(y, someText());
        y.compile();
        int n = Math.max(1, Math.min(400, y.translate()));
        byte[] row = new byte[4 * n];
        for (int i = 0; i < row.length; i++) {
            row[i] = (byte) (y.word(i / 4) >> 8 * (i % 4));
        }
        for (int changes = chance.nextInt(3); changes > 0; changes--) {
            row[chance.nextInt(row.length)] ^= (byte) (1 << chance.nextInt(8));
        }
        return chance.nextInt(12) == 0 ? Arrays.copyOf(row, row.length - 1) : row;
    }

    // ---- the calls that change something
    private void compile() {
        call = "compile()";
        Maker maker = new Maker(Maker.COMPILED, tape, null);
        FilterForge y = new FilterForge();
        int due = maker.on(y);
        due("it", x.compile(), due);
        tape = new byte[0];
        if (due > 0) {
            program = maker;
            filter = maker;
        }
    }

    private void load() {
        call = "load()";
        Maker maker = new Maker(Maker.LOADED, tape, null);
        int due = tape.length % 8 != 0 || tape.length == 0 ? -1 : tape.length / 8;
        due("it", x.load(), due);
        tape = new byte[0];
        program = due > 0 ? maker : program;
    }

    private void raw() {
        call = "raw()";
        Maker maker = new Maker(Maker.RAW, tape, null);
        int due = tape.length % 4 != 0 || tape.length == 0 ? -1 : tape.length / 4;
        due("it", x.raw(), due);
        tape = new byte[0];
        object = due > 0 ? maker : object;
    }

    private void translate() {
        call = "translate()";
        int due = fresh(program).translate();
        due("it", x.translate(), due);
        if (due > 0) {
            object = new Maker(Maker.TRANSLATED, null, program);
        }
    }

    private void packet() {
        call = "packet()";
        boolean fits = packets.size() < 16 && tape.length <= 256;
        due("it", x.packet(), fits ? packets.size() : packets.size() >= 16 ? -1 : -2);
        if (fits) {
            packets.add(tape);
        }
        tape = new byte[0];
    }

    private void verify() {
        call = "verify()";
        due("it", x.verify(), fresh(program).verify());
        looked = program;
    }

    private void perform(boolean other) {
        int p = chance.nextInt(5) == 0 ? chance.nextInt(20) - 2 : chance.nextInt(Math.max(1, packets.size()));
        call = (other ? "emulate(" : "run(") + p + ")";
        FilterForge y = withPackets(other ? object : program);
        long due = other ? y.emulate(p) : y.run(p);
        due("it", other ? x.emulate(p) : x.run(p), due);
        if (p >= 0 && p < packets.size() && (other ? object : program) != null) {
            ran = other ? object : program;
            ranOn = p;
        }
    }

    // ---- the calls that tell something
    private void tellCounts() {
        call += ", counts";
        due("count(0)", x.count(0), packets.size());
        due("count(3)", x.count(3), tape.length);
        due("count(1)", x.count(1), fresh(program).count(1));
        due("count(2)", x.count(2), fresh(object).count(2));
        FilterForge y = fresh(filter);
        due("count(4)", x.count(4), y.count(4));
        due("count(5)", x.count(5), y.count(5));
    }

    private void tellRows() {
        int i = chance.nextInt(chance.nextBoolean() ? 12 : 200) - 1;
        due("instruction(" + i + ")", x.instruction(i), fresh(program).instruction(i));
        due("word(" + i + ")", x.word(i), fresh(object).word(i));
        int p = chance.nextInt(packets.size() + 1);
        due("bytes(" + p + ", " + i + ")", x.bytes(p, i), withPackets(null).bytes(p, i));
        due("matches()", x.matches(), withPackets(filter).matches());
    }

    private void tellKnown() {
        FilterForge y = fresh(looked);
        if (looked != null) {
            y.verify();
        }
        int far = Math.max(2, y.count(1));
        for (int some = 0; some < 8; some++) {
            int i = chance.nextInt(far + 2) - 1;
            int r = chance.nextInt(13);
            int what = r == 11 ? chance.nextInt(66) - 1 : chance.nextInt(6);
            due("known(" + i + ", " + r + ", " + what + ")", x.known(i, r, what), y.known(i, r, what));
        }
    }

    private void tellMachine() {
        FilterForge y = withPackets(ran);
        if (ran != null && ran.kind < Maker.RAW) {
            y.run(ranOn);
        } else if (ran != null) {
            y.emulate(ranOn);
        }
        for (int what = 0; what < 3; what++) {
            due("ended(" + what + ")", x.ended(what), y.ended(what));
        }
        for (int some = 0; some < 4; some++) {
            int i = chance.nextInt(34) - 1;
            due("register(" + i + ")", x.register(i), y.register(i));
            int cell = chance.nextInt(66) - 1;
            due("stack(" + cell + ")", x.stack(cell), y.stack(cell));
        }
    }

    private int change() {
        int kind = chance.nextInt(22);
        if (kind < 8) {
            byte[] row = kind < 3 ? someText() : kind < 5 ? someProgram() : kind < 6 ? someWords() : somePacket();
            x.end(0);
            feed(x, row);
            tape = row;
            call = "feed of " + row.length;
            if (kind < 3) { compile(); } else if (kind < 5) { load(); } else if (kind < 6) { raw(); } else { packet(); }
            return 3 + (row.length + 19) / 20;
        }
        switch (kind) {
            case 8: compile(); break;
            case 9: load(); break;
            case 10: raw(); break;
            case 11: packet(); break;
            case 12: case 13: verify(); break;
            case 14: case 15: translate(); break;
            case 16: case 17: case 18: perform(false); break;
            case 19: case 20: perform(true); break;
            default: leave(); break;
        }
        return 1;
    }

    /** Something stays on the TAPE for the next. */
    private void leave() {
        byte[] row = Arrays.copyOf(somePacket(), 16);
        x.end(0);
        feed(x, row);
        tape = row;
        call = "feed of 16";
    }

    private void round(int number) {
        chance = new Random(number);
        x = new FilterForge();
        tape = new byte[0];
        call = "nothing";
        int calls = 0;
        while (calls < 400 && wrong < 20) {
            calls += change();
            switch (chance.nextInt(4)) {
                case 0: tellCounts(); calls += 6; break;
                case 1: tellRows(); calls += 4; break;
                case 2: tellKnown(); calls += 8; break;
                default: tellMachine(); calls += 11; break;
            }
        }
    }

    public static void main(String[] args) {
        int rounds = args.length > 0 ? Integer.parseInt(args[0]) : 150;
        for (int i = 1; i <= rounds && wrong < 20; i++) {
            new FreshTest().round(i);
        }
        System.out.println("calls against new objects: " + compared + " answers");
        System.exit(wrong == 0 ? 0 : 1);
    }
}
