import java.util.Arrays;

/** The sum, the check and the field of the document's terms, seen in what is written, scanned and made. */
public final class SumsTest {
    private static final byte[][] FILES = {Kit.some(40, 1), Kit.some(40, 2), Kit.some(16, 3)};
    private static final byte[] SET = Kit.setOf(Kit.mainBody(40, 40, 16));
    private static final byte[] LONGEST = Kit.volumeOf(6, FILES);
    private static final int CHECKS_AT = 31 + 44 + 26;

    public static void main(String[] args) {
        sumOfEachLength();
        sumsOfSlices();
        checksOfSlices();
        lowestByteFirst();
        productsWithEachBase();
        powersOfEachBase();
        Kit.finish();
    }

    /** Sums of 42 .. 675 bytes: a packet stands whole only if its sum is right, and hides what is in its body then. */
    private static void sumOfEachLength() {
        Kit.says("Terms",
                "behind the bytes come 128, as few bytes 0 as make the length 56 modulo 64, and 8 n in eight bytes");
        byte[] inner = Kit.mainPacket(1, 2, 3);
        byte[] all = LONGEST.clone();
        System.arraycopy(inner, 0, all, 30, inner.length);
        for (int n = 35; n <= all.length - 26; n++) {
            byte[] head = Arrays.copyOf(Kit.packet(200, SET, Arrays.copyOfRange(all, 26, 26 + n)), 26);
            ParityVolume x = Kit.withFiles(FILES);
            x.protect(6);
            Kit.plant(x, 0, head);
            Kit.plant(x, 30, inner);
            Kit.due("scan with a body of " + n, x.scan(), ParityVolume.NOTHING);
            x.alter(6 + n % 16, (head[6 + n % 16] & 255) ^ 1);
            Kit.due("scan with its sum altered", x.scan(), 1);
        }
    }

    private static void checksBodyIs(byte[] content) {
        ParityVolume x = Kit.withFiles(content);
        x.protect(0);
        byte[] want = Kit.checksPacket(SET, 0, content);
        for (int i = 26; i < want.length; i++) {
            Kit.due("byte " + (i - 26) + " of the checks", x.byteAt(CHECKS_AT + i - 26), want[i] & 255);
        }
    }

    private static void sumsOfSlices() {
        Kit.says("Terms", "Then a .. d are added to A .. D (all wrapping).");
        for (int seed = 0; seed < 100; seed++) {
            checksBodyIs(Kit.some(40, seed));
        }
        checksBodyIs(Kit.bytes());
    }

    private static void checksOfSlices() {
        Kit.says("Terms",
                "turned right by 1 without the lowest bit (0 comes in), ^ -306674912 if that was 1; at last ~");
        for (int bit = 0; bit < 64; bit += 5) {
            byte[] ones = new byte[40];
            byte[] zeros = new byte[40];
            Arrays.fill(zeros, (byte) 255);
            for (int k = 0; k < 5 && bit + k < 64; k++) {
                ones[8 * k + (bit + k) / 8] |= (byte) (1 << (bit + k) % 8);
                zeros[8 * k + (bit + k) / 8] ^= (byte) (1 << (bit + k) % 8);
            }
            checksBodyIs(ones);
            checksBodyIs(zeros);
        }
        checksBodyIs(new byte[40]);
    }

    private static void lowestByteFirst() {
        Kit.says("Terms", "Numbers of several bytes are written with the lowest byte first.");
        byte[] content = Kit.some(40, 1);
        ParityVolume x = Kit.withFiles(content);
        x.protect(1);
        Kit.due("lower byte of the length of the checks' body", x.byteAt(31 + 44 + 4), 101);
        Kit.due("its higher byte", x.byteAt(31 + 44 + 5), 0);
        long check = 0;
        for (int i = 3; i >= 0; i--) {
            check = check << 8 | x.byteAt(CHECKS_AT + 1 + i);
        }
        java.util.zip.CRC32 crc = new java.util.zip.CRC32();
        crc.update(content, 0, 8);
        Kit.due("check of slice 0", check, crc.getValue());
    }

    private static void productsWithEachBase() {
        Kit.says("Terms", "the product of two is that of polynomials over bits, modulo 69643");
        int recoveries = LONGEST.length - 6 * 35;
        for (int j = 0; j < 12; j++) {
            for (int bit = 0; bit < 16; bit++) {
                byte[][] files = {new byte[40], new byte[40], new byte[16]};
                int q = (j + bit) % 4;
                files[j / 5][8 * (j % 5) + 2 * q + bit / 8] = (byte) (1 << bit % 8);
                ParityVolume x = Kit.withFiles(files);
                Kit.due("protect", x.protect(6), LONGEST.length);
                for (int e = 0; e < 6; e++) {
                    byte[] want = Kit.recoverySlice(e, files);
                    for (int i = 0; i < 8; i++) {
                        Kit.due("slice " + j + ", bit " + bit + ", exponent " + e,
                                x.byteAt(recoveries + 35 * e + 27 + i), want[i] & 255);
                    }
                }
            }
        }
    }

    private static void powersOfEachBase() {
        Kit.says("Terms",
                "slice j has the BASE 2^k, in the field, with k the j-th of 1, 2, 4, 7, 8, 11, 13, 14, 16, 19, 22, 23");
        int recoveries = LONGEST.length - 6 * 35;
        for (int e = 0; e < 256; e++) {
            ParityVolume x = Kit.withFiles(FILES);
            x.protect(1);
            Kit.plant(x, recoveries, Kit.recoveryPacket(SET, e, Kit.recoverySlice(e, FILES)));
            for (int j = 0; j < 12; j++) {
                int i = 8 * (j % 5) + (e + j) % 8;
                int was = FILES[j / 5][i] & 255;
                Kit.due("damage", x.damage(j / 5, i, was ^ 1 << (e + j) % 8), true);
                Kit.due("verify", x.verify(), 1 << j);
                Kit.due("repair of slice " + j + " with the exponent " + e, x.repair(), 1);
                Kit.due("byte of slice " + j + " with the exponent " + e, x.at(j / 5, i), was);
            }
        }
    }
}
