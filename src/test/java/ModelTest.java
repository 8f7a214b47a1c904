import java.util.Arrays;
import java.util.Random;

/** Runs of at most 512 calls, drawn from fixed seeds, each answer beside the model's. */
public final class ModelTest {
    private static final int RUNS = 2000;
    private static final int CALLS = 512;
    /** More than asking and looking take at most, so that the last of them still have room. */
    private static final int LAST = 100;
    private static final int[] EDGES = {-1, 256, 40, 41, Integer.MIN_VALUE, Integer.MAX_VALUE, 694, 3, 9};

    private static final int[] made = new int[13];
    private static final int[] refused = new int[6];

    private final Random random;
    private final String run;
    private final ParityVolume x = new ParityVolume();
    private final Model m = new Model();
    private int calls = 0;

    private ModelTest(long seed) {
        random = new Random(seed);
        run = "run " + seed + ", call ";
    }

    public static void main(String[] args) {
        for (int seed = 0; seed < RUNS && !Kit.failed(); seed++) {
            ModelTest t = new ModelTest(seed);
            t.go();
        }
        // Runs that never come to these answers would show nothing of them.
        Kit.due("repairs with none damaged, often enough", made[0] >= 100, true);
        Kit.due("repairs of one to six, often enough", made[1] + made[2] + made[3] + made[4] + made[5] >= 100, true);
        for (int k = 3; k <= 5; k++) {
            Kit.due("repairs that answer " + -k + ", often enough", refused[k] >= 20, true);
        }
        System.out.println("made " + Arrays.toString(made) + ", refused " + Arrays.toString(refused));
        Kit.finish();
    }

    private boolean room(int n) {
        return calls + n <= CALLS;
    }

    private void due(String what, long got, long want) {
        calls++;
        Kit.due(run + calls + ": " + what, got, want);
    }

    private void due(String what, boolean got, boolean want) {
        due(what, got ? 1 : 0, want ? 1 : 0);
    }

    private int below(int n) {
        return random.nextInt(20) == 0 ? EDGES[random.nextInt(EDGES.length)] : random.nextInt(Math.max(1, n));
    }

    private void go() {
        int style = random.nextInt(3);
        while (room(LAST + 50) && !Kit.failed()) {
            int what = random.nextInt(24);
            if (what < 5) {
                newFile();
            } else if (what < 7) {
                int r = below(7);
                due("protect", x.protect(r), m.protect(r));
            } else if (what < 11) {
                damageFile();
            } else if (what < 13 && style > 0) {
                damageVolume();
            } else if (what < 18 && style > 1 && m.volume.length > 60) {
                plantPacket();
            } else {
                ask();
            }
        }
        ask();
        look();
        Kit.due(run + "no more than 512 calls", calls <= CALLS, true);
    }

    private void newFile() {
        byte[] data = new byte[random.nextInt(4) == 0 ? 0 : random.nextInt(41)];
        random.nextBytes(data);
        if (random.nextInt(3) == 0) {
            Arrays.fill(data, data.length / 2, data.length, (byte) 0);
        }
        for (int i = 0; i < data.length; i += 8) {
            int n = Math.min(8, data.length - i);
            long bits = random.nextLong();
            for (int k = 0; k < n; k++) {
                bits = bits << 8 | data[i + k] & 255;
            }
            due("type", x.type(bits, n), m.type(bits, n));
        }
        if (random.nextInt(6) == 0) {
            int n = below(9);
            due("type", x.type(-2L, n), m.type(-2L, n));
        }
        int f = below(3);
        due("file", x.file(f), m.file(f));
    }

    private void damageFile() {
        int f = below(3);
        if (random.nextInt(3) == 0) {
            int n = below(12);
            due("shorten", x.shorten(f, n), m.shorten(f, n));
        } else {
            int i = below(40);
            int v = random.nextInt(3) == 0 ? 0 : below(256);
            due("damage", x.damage(f, i, v), m.damage(f, i, v));
        }
    }

    private void damageVolume() {
        int i = below(m.volume.length);
        if (random.nextInt(3) == 0) {
            int n = random.nextInt(4) == 0 ? below(40) : 1;
            due("cut", x.cut(i, n), m.cut(i, n));
        } else {
            int v = below(256);
            due("alter", x.alter(i, v), m.alter(i, v));
        }
    }

    private byte[] anyPacket() {
        int[] lengths = new int[1 + random.nextInt(3)];
        for (int f = 0; f < lengths.length; f++) {
            lengths[f] = random.nextInt(3) > 0 ? m.files[f].length : random.nextInt(random.nextInt(4) == 0 ? 256 : 41);
        }
        byte[] set = random.nextInt(8) == 0 ? Kit.bytes(1, 2, 3, 4) : random.nextInt(8) == 0
                ? Kit.setOf(Kit.mainBody(lengths)) : firstSet();
        int f = random.nextInt(3);
        byte[] slice = new byte[8];
        random.nextBytes(slice);
        switch (random.nextInt(8)) {
            case 0:
                return Kit.mainPacket(lengths);
            case 1:
                return Kit.filePacket(set, f, m.files[f]);
            case 2:
                return Kit.packet(Kit.CHECKS, set, Kit.bytes(f));
            case 3:
                return Kit.recoveryPacket(set, random.nextInt(256), slice);
            case 4:
                return Kit.packet(random.nextInt(256), set, new byte[random.nextInt(34)]);
            default:
                int e = random.nextBoolean() ? random.nextInt(256) : random.nextInt(8);
                return Kit.recoveryPacket(set, e, Kit.recoverySlice(e, m.files));
        }
    }

    private byte[] firstSet() {
        for (int i = 0; i + 31 <= m.volume.length; i++) {
            if (m.volume[i] == 80 && m.volume[i + 1] == 75 && m.volume[i + 2] == 84) {
                return Arrays.copyOfRange(m.volume, i + 22, i + 26);
            }
        }
        return new byte[4];
    }

    private void plantPacket() {
        byte[] p = anyPacket();
        int last = m.volume.length - p.length;
        if (last < 0) {
            return;
        }
        int at = random.nextInt(3) > 0 ? random.nextInt(last + 1) / 35 * 35 : last;
        for (int i = 0; i < p.length && room(LAST); i++) {
            if (m.byteAt(at + i) != (p[i] & 255)) {
                due("alter", x.alter(at + i, p[i] & 255), m.alter(at + i, p[i] & 255));
            }
        }
    }

    private void ask() {
        due("scan", x.scan(), m.scan());
        due("verify", x.verify(), m.verify());
        if (random.nextInt(3) > 0) {
            int want = m.repair();
            due("repair", x.repair(), want);
            if (want < 0) {
                refused[-want]++;
            } else {
                made[want]++;
            }
            look();
        }
        int i = below(m.volume.length);
        due("byteAt", x.byteAt(i), m.byteAt(i));
        due("volume", x.volume(), m.volume.length);
    }

    private void look() {
        int f = below(3);
        due("length", x.length(f), m.length(f));
        for (int i = -1; i <= m.length(f) && room(1); i += 1 + random.nextInt(5)) {
            due("at", x.at(f, i), m.at(f, i));
        }
    }
}
