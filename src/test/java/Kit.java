import java.nio.charset.StandardCharsets;
import java.security.MessageDigest;
import java.security.NoSuchAlgorithmException;
import java.util.Arrays;
import java.util.zip.CRC32;

/** What the tests share: telling wrong answers, and packets made with the Java library's own sums. */
final class Kit {
    static final int MAIN = 77;
    static final int FILE = 70;
    static final int CHECKS = 73;
    static final int RECOVERY = 82;

    private static int wrong = 0;

    private Kit() {
    }

    static void due(String what, long got, long want) {
        if (got != want) {
            wrong++;
            System.out.println(what + " answered " + got + ", due is " + want);
        }
    }

    static void due(String what, boolean got, boolean want) {
        due(what, got ? 1L : 0L, want ? 1L : 0L);
    }

    static void due(String what, byte[] got, byte[] want) {
        if (!Arrays.equals(got, want)) {
            wrong++;
            System.out.println(what + " is " + Arrays.toString(got) + ", due is " + Arrays.toString(want));
        }
    }

    static void finish() {
        System.out.println(wrong == 0 ? "all answers are as due" : wrong + " answers are not as due");
        if (wrong != 0) {
            System.exit(1);
        }
    }

    static boolean failed() {
        return wrong != 0;
    }

    static byte[] text(String s) {
        return s.getBytes(StandardCharsets.ISO_8859_1);
    }

    static byte[] bytes(int... values) {
        byte[] result = new byte[values.length];
        for (int i = 0; i < values.length; i++) {
            result[i] = (byte) values[i];
        }
        return result;
    }

    static byte[] join(byte[]... parts) {
        int n = 0;
        for (byte[] p : parts) {
            n += p.length;
        }
        byte[] result = new byte[n];
        int at = 0;
        for (byte[] p : parts) {
            System.arraycopy(p, 0, result, at, p.length);
            at += p.length;
        }
        return result;
    }

    static byte[] sum(byte[]... parts) {
        try {
            return MessageDigest.getInstance("MD5").digest(join(parts));
        } catch (NoSuchAlgorithmException e) {
            throw new IllegalStateException(e);
        }
    }

    static byte[] check(byte[] data) {
        CRC32 crc = new CRC32();
        crc.update(data);
        long v = crc.getValue();
        return bytes((int) v, (int) (v >> 8), (int) (v >> 16), (int) (v >> 24));
    }

    static byte[] packet(int type, byte[] set, byte[] body) {
        byte[] head = bytes(type, body.length, body.length >> 8);
        return join(bytes(80, 75, 84), head, sum(head, set, body), set, body);
    }

    static byte[] setOf(byte[] mainBody) {
        return Arrays.copyOf(sum(mainBody), 4);
    }

    static byte[] mainBody(int... lengths) {
        return join(bytes(8, lengths.length), bytes(lengths));
    }

    static byte[] mainPacket(int... lengths) {
        byte[] body = mainBody(lengths);
        return packet(MAIN, setOf(body), body);
    }

    static byte[] filePacket(byte[] set, int f, byte[] content) {
        return packet(FILE, set, join(bytes(f, content.length), sum(content)));
    }

    static byte[] checksPacket(byte[] set, int f, byte[] content) {
        byte[] body = bytes(f);
        for (int i = 0; i < content.length; i += 8) {
            byte[] slice = Arrays.copyOfRange(content, i, i + 8);
            body = join(body, check(slice), sum(slice));
        }
        return packet(CHECKS, set, body);
    }

    static byte[] recoveryPacket(byte[] set, int exponent, byte[] slice) {
        return packet(RECOVERY, set, join(bytes(exponent), slice));
    }

    /** The recovery slice of files (of their first 12 slices), by polynomials that are multiplied and divided the long way. */
    static byte[] recoverySlice(int exponent, byte[]... files) {
        int[] logs = {1, 2, 4, 7, 8, 11, 13, 14, 16, 19, 22, 23};
        int[] numbers = new int[4];
        int j = 0;
        for (byte[] file : files) {
            for (int i = 0; i < file.length && j < logs.length; i += 8) {
                byte[] slice = Arrays.copyOfRange(file, i, i + 8);
                for (int q = 0; q < 4; q++) {
                    int number = slice[2 * q] & 255 | (slice[2 * q + 1] & 255) << 8;
                    for (int e = 0; e < exponent; e++) {
                        number = product(number, product(1 << Math.min(logs[j], 15), 1 << Math.max(logs[j] - 15, 0)));
                    }
                    numbers[q] ^= number;
                }
                j++;
            }
        }
        byte[] result = new byte[8];
        for (int q = 0; q < 4; q++) {
            result[2 * q] = (byte) numbers[q];
            result[2 * q + 1] = (byte) (numbers[q] >> 8);
        }
        return result;
    }

    static int product(int a, int b) {
        long wide = 0;
        for (int k = 0; k < 16; k++) {
            if ((b >> k & 1) != 0) {
                wide ^= (long) a << k;
            }
        }
        for (int k = 31; k >= 16; k--) {
            if ((wide >> k & 1) != 0) {
                wide ^= 69643L << (k - 16);
            }
        }
        return (int) wide;
    }

    static void write(ParityVolume x, int f, byte[] content) {
        for (int i = 0; i < content.length; i += 8) {
            int n = Math.min(8, content.length - i);
            long bits = 0;
            for (int k = 0; k < n; k++) {
                bits = bits << 8 | content[i + k] & 255;
            }
            due("type", x.type(bits, n), i + n);
        }
        due("file", x.file(f), content.length);
    }

    static byte[] content(ParityVolume x, int f) {
        byte[] result = new byte[x.length(f)];
        for (int i = 0; i < result.length; i++) {
            result[i] = (byte) x.at(f, i);
        }
        return result;
    }

    static byte[] volume(ParityVolume x) {
        byte[] result = new byte[x.volume()];
        for (int i = 0; i < result.length; i++) {
            result[i] = (byte) x.byteAt(i);
        }
        return result;
    }

    static void plant(ParityVolume x, int at, byte[] data) {
        for (int i = 0; i < data.length; i++) {
            due("alter", x.alter(at + i, data[i] & 255), true);
        }
    }

    /** Makes the volume exactly these bytes, out of a longer one. */
    static void plantAll(ParityVolume x, byte[]... parts) {
        byte[] all = join(parts);
        int more = x.volume() - all.length;
        if (more > 0) {
            due("cut", x.cut(all.length, more), true);
        }
        plant(x, 0, all);
        due("volume", x.volume(), all.length);
    }
}
