import java.util.ArrayList;
import java.util.Arrays;
import java.util.List;
import java.util.Map;
import java.util.TreeMap;

/** What the document says, done once more in another way: lists, the library's sums, a table of logarithms. */
final class Model {
    private static final int[] LOGS = {1, 2, 4, 7, 8, 11, 13, 14, 16, 19, 22, 23};
    private static final int[] EXP = new int[65535];
    private static final int[] LOG = new int[65536];

    static {
        int v = 1;
        for (int i = 0; i < 65535; i++) {
            EXP[i] = v;
            LOG[v] = i;
            v = Kit.product(v, 2);
        }
    }

    byte[] typed = {};
    final byte[][] files = {{}, {}, {}};
    byte[] volume = {};

    private byte[] mainBody;
    private byte[] set;
    private Map<Integer, byte[]> counting;
    private List<Integer> damaged;
    private byte[][] made;

    int type(long bits, int n) {
        if (n < 1 || n > 8) {
            return -1;
        }
        if (typed.length + n > 40) {
            return -2;
        }
        for (int k = n; k > 0; k--) {
            typed = Kit.join(typed, Kit.bytes((int) (bits >> 8 * k - 8)));
        }
        return typed.length;
    }

    int file(int f) {
        if (f < 0 || f > 2) {
            return -1;
        }
        files[f] = typed;
        typed = new byte[0];
        return files[f].length;
    }

    boolean damage(int f, int i, int v) {
        if (at(f, i) < 0 || (v & 255) != v) {
            return false;
        }
        files[f] = files[f].clone();
        files[f][i] = (byte) v;
        return true;
    }

    boolean shorten(int f, int n) {
        if (f < 0 || f > 2 || n < 0 || n > files[f].length) {
            return false;
        }
        files[f] = Arrays.copyOf(files[f], files[f].length - n);
        return true;
    }

    int protect(int r) {
        if (r < 0 || r > 6) {
            return -1;
        }
        if (slices(files[0].length) + slices(files[1].length) + slices(files[2].length) > 12) {
            return -2;
        }
        byte[] body = Kit.mainBody(files[0].length, files[1].length, files[2].length);
        byte[] ofMain = Kit.setOf(body);
        volume = Kit.packet(Kit.MAIN, ofMain, body);
        for (int f = 0; f < 3; f++) {
            volume = Kit.join(volume, Kit.filePacket(ofMain, f, files[f]), Kit.checksPacket(ofMain, f, files[f]));
        }
        for (int e = 0; e < r; e++) {
            volume = Kit.join(volume, Kit.recoveryPacket(ofMain, e, Kit.recoverySlice(e, files)));
        }
        return volume.length;
    }

    int byteAt(int i) {
        return i < 0 || i >= volume.length ? -1 : volume[i] & 255;
    }

    boolean alter(int i, int v) {
        if (byteAt(i) < 0 || (v & 255) != v) {
            return false;
        }
        volume[i] = (byte) v;
        return true;
    }

    boolean cut(int i, int n) {
        if (i < 0 || n < 1 || (long) i + n > volume.length) {
            return false;
        }
        volume = Kit.join(Arrays.copyOf(volume, i), Arrays.copyOfRange(volume, i + n, volume.length));
        return true;
    }

    int scan() {
        if (!read()) {
            return -3;
        }
        int recoveries = 0;
        for (int key : counting.keySet()) {
            recoveries += key >> 8 == Kit.RECOVERY ? 1 : 0;
        }
        return 1 + counting.size() + 100 * recoveries;
    }

    int verify() {
        if (!read()) {
            return -3;
        }
        examine();
        int bits = 0;
        for (int j : damaged) {
            bits |= 1 << j;
        }
        return bits;
    }

    int repair() {
        if (!read()) {
            return -3;
        }
        examine();
        if (!solve()) {
            return -4;
        }
        int n = mainBody[1];
        byte[][] results = new byte[n][];
        int j = 0;
        for (int f = 0; f < n; f++) {
            byte[] all = {};
            for (int k = 0; k < slices(mainBody[2 + f]); k++) {
                all = Kit.join(all, made[j++]);
            }
            results[f] = Arrays.copyOf(all, mainBody[2 + f]);
            byte[] told = counting.get(Kit.FILE << 8 | f);
            if (told != null && !Arrays.equals(Arrays.copyOfRange(told, 2, 18), Kit.sum(results[f]))) {
                return -5;
            }
        }
        System.arraycopy(results, 0, files, 0, n);
        return damaged.size();
    }

    int length(int f) {
        return f < 0 || f > 2 ? -1 : files[f].length;
    }

    int at(int f, int i) {
        return f < 0 || f > 2 || i < 0 || i >= files[f].length ? -1 : files[f][i] & 255;
    }

    private static int slices(int n) {
        return (int) Math.ceil(n / 8.0);
    }

    private boolean read() {
        List<byte[]> packets = new ArrayList<>();
        int i = 0;
        while (i + 26 <= volume.length) {
            int n = volume[i + 4] & 255 | (volume[i + 5] & 255) << 8;
            if (volume[i] == 80 && volume[i + 1] == 75 && volume[i + 2] == 84 && i + 26 + n <= volume.length) {
                byte[] body = Arrays.copyOfRange(volume, i + 26, i + 26 + n);
                byte[] its = Arrays.copyOfRange(volume, i + 22, i + 26);
                byte[] right = Kit.packet(volume[i + 3], its, body);
                if (Arrays.equals(right, Arrays.copyOfRange(volume, i, i + 26 + n))) {
                    packets.add(right);
                    i += right.length;
                    continue;
                }
            }
            i++;
        }
        mainBody = null;
        for (byte[] p : packets) {
            byte[] body = Arrays.copyOfRange(p, 26, p.length);
            if (mainBody == null && p[3] == Kit.MAIN && isMain(body) && Arrays.equals(setIn(p), Kit.setOf(body))) {
                mainBody = body;
                set = setIn(p);
            }
        }
        counting = new TreeMap<>();
        for (byte[] p : packets) {
            byte[] body = Arrays.copyOfRange(p, 26, p.length);
            if (mainBody != null && Arrays.equals(setIn(p), set) && isAsSaid(p[3], body)) {
                counting.putIfAbsent(p[3] << 8 | body[0] & 255, body);
            }
        }
        return mainBody != null;
    }

    private static byte[] setIn(byte[] packet) {
        return Arrays.copyOfRange(packet, 22, 26);
    }

    private static boolean isMain(byte[] body) {
        if (body.length < 3 || body[0] != 8 || body[1] != body.length - 2 || body[1] > 3) {
            return false;
        }
        int all = 0;
        for (int f = 2; f < body.length; f++) {
            if ((body[f] & 255) > 40) {
                return false;
            }
            all += slices(body[f]);
        }
        return all <= 12;
    }

    private boolean isAsSaid(int type, byte[] body) {
        if (type == Kit.RECOVERY) {
            return body.length == 9;
        }
        if (body.length == 0 || (body[0] & 255) >= mainBody[1]) {
            return false;
        }
        int told = mainBody[2 + body[0]];
        return type == Kit.FILE && body.length == 18 && body[1] == told
                || type == Kit.CHECKS && body.length == 1 + 20 * slices(told);
    }

    private void examine() {
        damaged = new ArrayList<>();
        List<byte[]> all = new ArrayList<>();
        for (int f = 0; f < mainBody[1]; f++) {
            int told = mainBody[2 + f];
            byte[] padded = Arrays.copyOf(Arrays.copyOf(files[f], told), 8 * slices(told));
            byte[] checks = counting.get(Kit.CHECKS << 8 | f);
            for (int k = 0; k < slices(told); k++) {
                byte[] slice = Arrays.copyOfRange(padded, 8 * k, 8 * k + 8);
                byte[] right = Kit.join(Kit.check(slice), Kit.sum(slice));
                if (checks == null || !Arrays.equals(right, Arrays.copyOfRange(checks, 1 + 20 * k, 21 + 20 * k))) {
                    damaged.add(all.size());
                }
                all.add(slice);
            }
        }
        made = all.toArray(new byte[0][]);
    }

    /** Picks rows whose rank grows, each time from scratch, and solves what was picked by Gauss and Jordan. */
    private boolean solve() {
        List<Integer> taken = new ArrayList<>();
        for (int e = 0; e < 256 && taken.size() < damaged.size(); e++) {
            if (counting.containsKey(Kit.RECOVERY << 8 | e)) {
                taken.add(e);
                if (reduce(system(taken)) < taken.size()) {
                    taken.remove(taken.size() - 1);
                }
            }
        }
        int d = damaged.size();
        if (taken.size() < d) {
            return false;
        }
        int[][] m = system(taken);
        reduce(m);
        for (int u = 0; u < d; u++) {
            byte[] slice = new byte[8];
            for (int q = 0; q < 4; q++) {
                slice[2 * q] = (byte) m[u][d + q];
                slice[2 * q + 1] = (byte) (m[u][d + q] >> 8);
            }
            made[damaged.get(u)] = slice;
        }
        return true;
    }

    private int[][] system(List<Integer> exponents) {
        int d = damaged.size();
        int[][] m = new int[exponents.size()][d + 4];
        for (int t = 0; t < m.length; t++) {
            int e = exponents.get(t);
            byte[] body = counting.get(Kit.RECOVERY << 8 | e);
            for (int q = 0; q < 4; q++) {
                m[t][d + q] = number(body, 1 + 2 * q);
            }
            for (int j = 0; j < made.length; j++) {
                int power = EXP[LOGS[j] * e % 65535];
                int u = damaged.indexOf(j);
                if (u >= 0) {
                    m[t][u] = power;
                } else {
                    for (int q = 0; q < 4; q++) {
                        m[t][d + q] ^= times(power, number(made[j], 2 * q));
                    }
                }
            }
        }
        return m;
    }

    private int reduce(int[][] m) {
        int rank = 0;
        for (int c = 0; c < damaged.size(); c++) {
            int p = rank;
            while (p < m.length && m[p][c] == 0) {
                p++;
            }
            if (p == m.length) {
                continue;
            }
            int[] row = m[p];
            m[p] = m[rank];
            m[rank] = row;
            int inverse = EXP[(65535 - LOG[row[c]]) % 65535];
            for (int k = 0; k < row.length; k++) {
                row[k] = times(row[k], inverse);
            }
            for (int t = 0; t < m.length; t++) {
                int factor = m[t][c];
                if (t != rank && factor != 0) {
                    for (int k = 0; k < row.length; k++) {
                        m[t][k] ^= times(factor, row[k]);
                    }
                }
            }
            rank++;
        }
        return rank;
    }

    private static int number(byte[] b, int i) {
        return b[i] & 255 | (b[i + 1] & 255) << 8;
    }

    private static int times(int a, int b) {
        return a == 0 || b == 0 ? 0 : EXP[(LOG[a] + LOG[b]) % 65535];
    }
}
