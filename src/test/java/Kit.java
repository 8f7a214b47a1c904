import java.nio.charset.StandardCharsets;
import java.security.MessageDigest;
import java.security.NoSuchAlgorithmException;
import java.util.Arrays;
import java.util.zip.CRC32;

/** What the tests share: telling wrong answers, and packets made with the Java library's own sums. */
final class Kit {
    static final int MAIN = 77;
    static final int FILE = 70;
    static final int CHECKS = 73;
    static final int RECOVERY = 82;

    /** Out of every range of the document, though some would be within one if they wrapped or lost bits. */
    static final int[] FAR = {Integer.MIN_VALUE, Integer.MIN_VALUE + 1, Integer.MIN_VALUE + 8, -65536, -65535,
        -256, -255, 1024, 65536, 65537, 1 << 24, Integer.MAX_VALUE - 1, Integer.MAX_VALUE};

    private static int wrong = 0;
    private static String sentence = "";

    private Kit() {
    }

    /** The sentence of the document that the checks behind this are about; it is told with each wrong answer. */
    static void says(String promise, String words) {
        sentence = promise + ", '" + words + "': ";
        due("the document's saying so", Texts.documentSays(words), true);
    }

    static void due(String what, long got, long want) {
        if (got != want) {
            wrong++;
            System.out.println(sentence + what + " answered " + got + ", due is " + want);
        }
    }

    static void due(String what, boolean got, boolean want) {
        due(what, got ? 1L : 0L, want ? 1L : 0L);
    }

    static void due(String what, byte[] got, byte[] want) {
        int i = Arrays.mismatch(got, want);
        if (i >= 0) {
            wrong++;
            System.out.println(sentence + what + " has " + got.length + " bytes, due are " + want.length
                    + ", and place " + i + " is the first that differs: " + byteText(got, i)
                    + ", due is " + byteText(want, i));
        }
    }

    private static String byteText(byte[] data, int i) {
        return i < data.length ? Integer.toString(data[i] & 255) : "none";
    }

    static void finish() {
        System.out.println(wrong == 0 ? "all answers are as due" : wrong + " answers are not as due");
        if (wrong != 0) {
            System.exit(1);
        }
    }

    static boolean failed() {
        return wrong != 0;
    }

    static long bit(boolean answer) {
        return answer ? 1 : 0;
    }

    static byte[] text(String s) {
        return s.getBytes(StandardCharsets.ISO_8859_1);
    }

    static byte[] bytes(int... values) {
        byte[] result = new byte[values.length];
        for (int i = 0; i < values.length; i++) {
            result[i] = (byte) values[i];
        }
        return result;
    }

    /** So many bytes, other ones for another seed; all of 0 .. 255 come, 0 and 255 often. */
    static byte[] some(int n, int seed) {
        byte[] result = new byte[n];
        for (int i = 0; i < n; i++) {
            int v = (i + 1) * (2 * seed + 77) + (i * i >> 1) + 13 * seed;
            result[i] = (byte) (v % 5 == 0 ? 0 : v % 7 == 0 ? 255 : v);
        }
        return result;
    }

    /** The bytes with byte i as v. */
    static byte[] with(byte[] data, int i, int v) {
        byte[] result = data.clone();
        result[i] = (byte) v;
        return result;
    }

    /** The bytes without n of them from place i on. */
    static byte[] without(byte[] data, int i, int n) {
        return join(Arrays.copyOf(data, i), Arrays.copyOfRange(data, i + n, data.length));
    }

    static byte[] join(byte[]... parts) {
        int n = 0;
        for (byte[] p : parts) {
            n += p.length;
        }
        byte[] result = new byte[n];
        int at = 0;
        for (byte[] p : parts) {
            System.arraycopy(p, 0, result, at, p.length);
            at += p.length;
        }
        return result;
    }

    static byte[] sum(byte[]... parts) {
        try {
            return MessageDigest.getInstance("MD5").digest(join(parts));
        } catch (NoSuchAlgorithmException e) {
            throw new IllegalStateException(e);
        }
    }

    static byte[] check(byte[] data) {
        CRC32 crc = new CRC32();
        crc.update(data);
        long v = crc.getValue();
        return bytes((int) v, (int) (v >> 8), (int) (v >> 16), (int) (v >> 24));
    }

    static byte[] packet(int type, byte[] set, byte[] body) {
        byte[] head = bytes(type, body.length, body.length >> 8);
        return join(bytes(80, 75, 84), head, sum(head, set, body), set, body);
    }

    static byte[] setOf(byte[] mainBody) {
        return Arrays.copyOf(sum(mainBody), 4);
    }

    static byte[] mainBody(int... lengths) {
        return join(bytes(8, lengths.length), bytes(lengths));
    }

    static byte[] mainPacket(int... lengths) {
        byte[] body = mainBody(lengths);
        return packet(MAIN, setOf(body), body);
    }

    static byte[] filePacket(byte[] set, int f, byte[] content) {
        return packet(FILE, set, join(bytes(f, content.length), sum(content)));
    }

    static byte[] checksPacket(byte[] set, int f, byte[] content) {
        byte[] body = bytes(f);
        for (int i = 0; i < content.length; i += 8) {
            byte[] slice = Arrays.copyOfRange(content, i, i + 8);
            body = join(body, check(slice), sum(slice));
        }
        return packet(CHECKS, set, body);
    }

    static byte[] recoveryPacket(byte[] set, int exponent, byte[] slice) {
        return packet(RECOVERY, set, join(bytes(exponent), slice));
    }

    /** The recovery slice of files (of their first 12 slices), by polynomials multiplied and divided the long way. */
    static byte[] recoverySlice(int exponent, byte[]... files) {
        int[] logs = {1, 2, 4, 7, 8, 11, 13, 14, 16, 19, 22, 23};
        int[] numbers = new int[4];
        int j = 0;
        for (byte[] file : files) {
            for (int i = 0; i < file.length && j < logs.length; i += 8) {
                byte[] slice = Arrays.copyOfRange(file, i, i + 8);
                for (int q = 0; q < 4; q++) {
                    int number = slice[2 * q] & 255 | (slice[2 * q + 1] & 255) << 8;
                    for (int e = 0; e < exponent; e++) {
                        number = product(number, product(1 << Math.min(logs[j], 15), 1 << Math.max(logs[j] - 15, 0)));
                    }
                    numbers[q] ^= number;
                }
                j++;
            }
        }
        byte[] result = new byte[8];
        for (int q = 0; q < 4; q++) {
            result[2 * q] = (byte) numbers[q];
            result[2 * q + 1] = (byte) (numbers[q] >> 8);
        }
        return result;
    }

    /** The volume that protecting the three files must write. */
    static byte[] volumeOf(int r, byte[]... files) {
        byte[] body = mainBody(files[0].length, files[1].length, files[2].length);
        byte[] set = setOf(body);
        byte[] result = packet(MAIN, set, body);
        for (int f = 0; f < files.length; f++) {
            result = join(result, filePacket(set, f, files[f]), checksPacket(set, f, files[f]));
        }
        for (int e = 0; e < r; e++) {
            result = join(result, recoveryPacket(set, e, recoverySlice(e, files)));
        }
        return result;
    }

    static int product(int a, int b) {
        long wide = 0;
        for (int k = 0; k < 16; k++) {
            if ((b >> k & 1) != 0) {
                wide ^= (long) a << k;
            }
        }
        for (int k = 31; k >= 16; k--) {
            if ((wide >> k & 1) != 0) {
                wide ^= 69643L << (k - 16);
            }
        }
        return (int) wide;
    }

    static ParityVolume withFiles(byte[]... files) {
        ParityVolume x = new ParityVolume();
        for (int f = 0; f < files.length; f++) {
            write(x, f, files[f]);
        }
        return x;
    }

    static void write(ParityVolume x, int f, byte[] content) {
        for (int i = 0; i < content.length; i += 8) {
            int n = Math.min(8, content.length - i);
            long bits = 0;
            for (int k = 0; k < n; k++) {
                bits = bits << 8 | content[i + k] & 255;
            }
            due("type", x.type(bits, n), i + n);
        }
        due("file", x.file(f), content.length);
    }

    static byte[] content(ParityVolume x, int f) {
        byte[] result = new byte[x.length(f)];
        for (int i = 0; i < result.length; i++) {
            result[i] = asByte(x.at(f, i));
        }
        return result;
    }

    static byte asByte(int v) {
        due("a byte is 0 .. 255", v >= 0 && v <= 255, true);
        return (byte) v;
    }

    static void plant(ParityVolume x, int at, byte[] data) {
        for (int i = 0; i < data.length; i++) {
            due("alter", x.alter(at + i, data[i] & 255), true);
        }
    }

    /** Makes the volume exactly these bytes, out of a longer one. */
    static void plantAll(ParityVolume x, byte[]... parts) {
        byte[] all = join(parts);
        int more = x.volume() - all.length;
        if (more > 0) {
            due("cut", x.cut(all.length, more), true);
        }
        plant(x, 0, all);
        due("volume", x.volume(), all.length);
    }
}
