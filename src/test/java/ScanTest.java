import java.util.Arrays;

/** Promise 11 and the terms of packets, bodies and scanning: a method for each sentence that names a boundary. */
public final class ScanTest {
    private static final int NO = ParityVolume.NOTHING;
    private static final byte[] A = Kit.text("file zero, 3 slices");
    private static final byte[] B = Kit.text("one");
    private static final byte[] SET = Kit.setOf(Kit.mainBody(A.length, B.length));
    private static final byte[] MAIN = Kit.mainPacket(A.length, B.length);
    private static final byte[] FILE = Kit.filePacket(SET, 1, B);
    private static final byte[] CHECKS = Kit.checksPacket(SET, 1, B);
    private static final byte[] R = Kit.text("recovery");
    private static final byte[] RECOVERY = Kit.recoveryPacket(SET, 7, R);
    private static final byte[] OTHER_SET = Kit.bytes(1, 2, 3, 4);

    public static void main(String[] args) {
        scanTellsHowManyCount();
        scanTellsRecoveries();
        scanTellsNothing();
        scanChangesNothing();

        eachByteOfAPacketMatters();
        anyTypeIsAPacket();
        allOfTheBodyMustBeThere();
        whatWasCutIsNotThere();
        lengthsOfTwoBytes();
        goesOnBehindAPacket();
        goesOnWithTheNextByte();

        mainBeginsWithEight();
        mainHasOneToThreeFiles();
        mainTellsLengthsUpToForty();
        mainHasTwelveSlicesAtMost();
        mainBodyIsAsLongAsSaid();
        mainSetIsThatOfItsBody();
        mainIsTheFirst();

        countsBeforeAndBehind();
        countsWithTheSetOfMain();
        countsForFilesOfMain();
        fileTellsTheLength();
        fileBodyHasEighteen();
        checksHaveAsManySlices();
        recoveryHasNineBytes();
        recoveryHasAnyExponent();
        otherTypesDoNotCount();
        countsOnce();
        countsTheFirstThatCounts();
        Kit.finish();
    }

    /** What scan answers for a volume of these bytes; if it is NOTHING, the others answer so, too. */
    private static void scanned(String what, int want, byte[]... parts) {
        ParityVolume x = new ParityVolume();
        x.protect(6);
        Kit.plantAll(x, parts);
        Kit.due(what, x.scan(), want);
        Kit.due(what + ", again", x.scan(), want);
        Kit.due(what + ": verify is NOTHING", x.verify() == NO, want == NO);
        Kit.due(what + ": repair is NOTHING", x.repair() == NO, want == NO);
    }

    private static byte[] flipped(byte[] packet, int i, int bit) {
        return Kit.with(packet, i, packet[i] ^ 1 << bit);
    }

    private static void scanTellsHowManyCount() {
        Kit.says("Promise 11",
                "how many packets count, the main one too, plus 100 times the recovery packets among them");
        ParityVolume x = new ParityVolume();
        for (int r = 0; r <= 6; r++) {
            x.protect(r);
            Kit.due("protected with " + r, x.scan(), 7 + r + 100 * r);
        }
        Kit.due("alter a recovery's last byte", x.alter(453, x.byteAt(453) ^ 1), true);
        Kit.due("one less", x.scan(), 512);
        Kit.due("cut one byte of another", x.cut(410, 1), true);
        Kit.due("two less", x.scan(), 411);
        Kit.due("alter a file packet's set", x.alter(31 + 22, x.byteAt(31 + 22) ^ 1), true);
        Kit.due("three less", x.scan(), 410);
        scanned("main alone", 1, MAIN);
        scanned("a file, too", 2, MAIN, FILE);
        scanned("a recovery, too", 102, MAIN, RECOVERY);
    }

    /** As many recovery packets as there is room for in the longest volume, eighteen. */
    private static void scanTellsRecoveries() {
        Kit.says("Promise 11", "plus 100 times the recovery packets among them");
        byte[][] files = {Kit.some(40, 1), Kit.some(40, 2), Kit.some(16, 3)};
        byte[] set = Kit.setOf(Kit.mainBody(40, 40, 16));
        ParityVolume x = Kit.withFiles(files);
        x.protect(6);
        x.cut(31 + 420, 694 - 31 - 420 - 210);
        for (int k = 0; k < 12; k++) {
            int e = 6 + 22 * k;
            Kit.plant(x, 31 + 35 * k, Kit.recoveryPacket(set, e, Kit.recoverySlice(e, files)));
        }
        Kit.due("volume", x.volume(), 31 + 18 * 35);
        Kit.due("eighteen", x.scan(), 1819);
        x.damage(0, 0, 1);
        Kit.due("repair", x.repair(), 12);
        Kit.due("byte 0", x.at(0, 0), files[0][0] & 255);
        x.alter(31, 0);
        Kit.due("seventeen", x.scan(), 1718);
    }

    private static void scanTellsNothing() {
        Kit.says("Promise 11", "NOTHING");
        ParityVolume x = new ParityVolume();
        Kit.due("of a new object", x.scan(), NO);
        x.protect(6);
        x.cut(0, 31);
        Kit.due("main has gone", x.scan(), NO);
        x.cut(0, 423);
        Kit.due("all has gone", x.scan(), NO);
        scanned("bytes of no packet", NO, new byte[100]);
        scanned("others alone", NO, FILE, CHECKS, RECOVERY);
        scanned("one byte", NO, Kit.bytes(80));
        scanned("the mark alone", NO, Kit.bytes(80, 75, 84));
        scanned("the mark at the end", 1, MAIN, Kit.bytes(80, 75, 84));
    }

    private static void scanChangesNothing() {
        Kit.says("Promise 11", "Scans the volume");
        State.stays("scan", State::busy, x -> x.scan(), 207);
        State.stays("scan without main", () -> {
            ParityVolume x = State.busy();
            x.cut(30, 1);
            return x;
        }, x -> x.scan(), NO);
    }

    private static void eachByteOfAPacketMatters() {
        Kit.says("Terms",
                "where a packet stands as a whole (80 75 84, any type, all of its body, and the sum is right)");
        for (int i = 0; i < MAIN.length; i++) {
            scanned("main with byte " + i + " altered", NO, flipped(MAIN, i, i % 8));
        }
        for (byte[] packet : new byte[][] {FILE, CHECKS}) {
            scanned("whole", 2, MAIN, packet);
            for (int i = 0; i < packet.length; i++) {
                scanned("a packet with byte " + i + " altered", 1, MAIN, flipped(packet, i, i % 8));
            }
        }
        for (int i = 0; i < RECOVERY.length; i++) {
            scanned("a recovery with byte " + i + " altered", 1, MAIN, flipped(RECOVERY, i, i % 8));
        }
        for (int i = 0; i < 3; i++) {
            scanned("a mark with less", NO, Kit.with(MAIN, i, MAIN[i] - 1));
            scanned("a mark with more", NO, Kit.with(MAIN, i, MAIN[i] + 1));
        }
    }

    private static void anyTypeIsAPacket() {
        Kit.says("Terms", "any type");
        for (int type = 0; type < 256; type++) {
            byte[] outer = Kit.packet(type, SET, MAIN);
            scanned("main within type " + type, NO, outer);
            scanned("main within what is no packet", 1, flipped(outer, 6, 0));
        }
    }

    private static void allOfTheBodyMustBeThere() {
        Kit.says("Terms", "all of its body");
        scanned("all of main", 1, MAIN);
        scanned("a byte of main is missing", NO, Arrays.copyOf(MAIN, MAIN.length - 1));
        for (byte[] packet : new byte[][] {FILE, CHECKS}) {
            scanned("all of it", 2, MAIN, packet);
            for (int n = 0; n < packet.length; n++) {
                scanned(n + " bytes of it", 1, MAIN, Arrays.copyOf(packet, n));
            }
        }
        byte[] zeros = Kit.packet(Kit.RECOVERY, SET, new byte[9]);
        scanned("all of a recovery of zeros", 102, MAIN, zeros);
        scanned("a zero is missing", 1, MAIN, Arrays.copyOf(zeros, zeros.length - 1));
        byte[] sumWithout = Kit.join(Arrays.copyOf(zeros, 6),
                Kit.sum(Kit.bytes(Kit.RECOVERY, 9, 0), SET, new byte[8]), SET, new byte[8]);
        scanned("a byte is missing and the sum is that of what is there", 1, MAIN, sumWithout);
    }

    private static void whatWasCutIsNotThere() {
        Kit.says("Terms", "all of its body");
        ParityVolume x = new ParityVolume();
        x.protect(1);
        Kit.due("one recovery", x.scan(), 108);
        Kit.due("cut its last byte", x.cut(278, 1), true);
        Kit.due("none", x.scan(), 7);
        x.protect(0);
        Kit.due("cut all behind main", x.cut(31, 213), true);
        Kit.due("main", x.scan(), 1);
        Kit.due("cut its last byte", x.cut(30, 1), true);
        Kit.due("nothing", x.scan(), NO);
    }

    private static void lengthsOfTwoBytes() {
        Kit.says("Terms", "two bytes with the length of its body");
        for (int n : new int[] {31, 254, 255, 256, 257, 300, 394}) {
            byte[] body = Kit.some(n, 6);
            System.arraycopy(MAIN, 0, body, n - MAIN.length, MAIN.length);
            byte[] outer = Kit.packet(200, SET, body);
            scanned("a body of " + n, NO, outer);
            scanned("a body of " + n + " with a byte behind", NO, outer, Kit.bytes(80));
            scanned("a body of " + n + ", lower byte altered", 1, flipped(outer, 4, 0));
            scanned("a body of " + n + ", higher byte altered", 1, flipped(outer, 5, 0));
            scanned("a body of " + n + ", more than there is", 1, flipped(outer, 5, 7));
        }
    }

    /** The last bytes of a packet are the first ones of a main packet, which therefore is not found. */
    private static void goesOnBehindAPacket() {
        Kit.says("Terms", "that is one and it goes on behind it");
        for (int n = 0; n < 62; n++) {
            for (int t : new int[] {1, 2, 3, 4, Math.min(30, 4 + n)}) {
                byte[] setAndBody = new byte[4 + n];
                System.arraycopy(MAIN, 0, setAndBody, 4 + n - t, t);
                byte[] outer = Kit.packet(9, Arrays.copyOf(setAndBody, 4), Arrays.copyOfRange(setAndBody, 4, 4 + n));
                byte[] rest = Arrays.copyOfRange(MAIN, t, MAIN.length);
                scanned("main from " + t + " before the end of a packet on, body " + n, NO, outer, rest);
                scanned("the same, and that is no packet", 1, flipped(outer, 21, 0), rest);
            }
            scanned("main just behind a packet", 1, Kit.packet(9, SET, new byte[n]), MAIN);
        }
        scanned("packets without a gap", 104, FILE, MAIN, CHECKS, RECOVERY);
        byte[] empty = Kit.packet(1, SET, Kit.bytes());
        scanned("many without bodies", 2, empty, empty, empty, empty, empty, empty, empty, empty, empty, empty, empty,
                empty, empty, MAIN, FILE);
    }

    private static void goesOnWithTheNextByte() {
        Kit.says("Terms", "else it goes on with the next byte");
        byte[][] before = {Kit.bytes(0), Kit.bytes(80), Kit.bytes(80, 75), Kit.bytes(80, 75, 84), Kit.bytes(80, 80),
            Kit.bytes(80, 75, 80), Kit.bytes(80, 75, 80, 75), Kit.bytes(80, 75, 84, 80, 75, 84),
            Kit.bytes(80, 75, 84, 77), Kit.bytes(80, 75, 84, 77, 0), Kit.bytes(80, 75, 84, 77, 0, 0), Kit.bytes(80, 75, 84, 77, 5, 0)};
        for (byte[] b : before) {
            scanned("main behind " + b.length, 1, b, MAIN);
            scanned("all behind " + b.length, 102, b, MAIN, b, RECOVERY, b);
        }
        byte[] broken = flipped(Kit.packet(9, SET, new byte[60]), 6, 0);
        for (int i = 3; i < broken.length; i++) {
            scanned("main from place " + i + " of what is no packet on", 1, Arrays.copyOf(broken, i), MAIN);
        }
    }

    private static void mainBeginsWithEight() {
        Kit.says("Terms", "MAIN (type 77): 8");
        for (int first = 0; first < 256; first++) {
            byte[] body = Kit.bytes(first, 2, A.length, B.length);
            scanned("first byte " + first, first == 8 ? 1 : NO, Kit.packet(Kit.MAIN, Kit.setOf(body), body));
        }
    }

    private static void mainHasOneToThreeFiles() {
        Kit.says("Terms", "the number of files n (1 .. 3)");
        scanned("no file", NO, Kit.mainPacket());
        scanned("one file", 1, Kit.mainPacket(0));
        scanned("two files", 1, Kit.mainPacket(0, 0));
        scanned("three files", 1, Kit.mainPacket(0, 0, 0));
        scanned("four files", NO, Kit.mainPacket(0, 0, 0, 0));
        scanned("five files", NO, Kit.mainPacket(0, 0, 0, 0, 0));
        scanned("255 files", NO, Kit.mainPacket(new int[255]));
        scanned("128 files", NO, Kit.mainPacket(new int[128]));
    }

    private static void mainTellsLengthsUpToForty() {
        Kit.says("Terms", "for each a byte with its length (at most 40");
        for (int n : new int[] {0, 1, 8, 39, 40, 41, 42, 48, 127, 128, 254, 255}) {
            int want = n <= 40 ? 1 : NO;
            scanned("one of " + n, want, Kit.mainPacket(n));
            scanned("first of two " + n, want, Kit.mainPacket(n, 0));
            scanned("second of two " + n, want, Kit.mainPacket(0, n));
            scanned("first of three " + n, want, Kit.mainPacket(n, 0, 0));
            scanned("second of three " + n, want, Kit.mainPacket(0, n, 0));
            scanned("third of three " + n, want, Kit.mainPacket(0, 0, n));
        }
    }

    private static void mainHasTwelveSlicesAtMost() {
        Kit.says("Terms", "and 12 slices in all");
        int[][] twelve = {{40, 40, 16}, {40, 16, 40}, {16, 40, 40}, {32, 32, 32}, {33, 25, 17}, {40, 40, 9},
            {40, 40, 0}};
        for (int[] lengths : twelve) {
            scanned("lengths " + Arrays.toString(lengths), 1, Kit.mainPacket(lengths));
        }
        int[][] thirteen = {{40, 40, 17}, {40, 17, 40}, {17, 40, 40}, {33, 32, 32}, {32, 33, 32}, {32, 32, 33},
            {40, 40, 40}};
        for (int[] lengths : thirteen) {
            scanned("lengths " + Arrays.toString(lengths), NO, Kit.mainPacket(lengths));
        }
    }

    private static void mainBodyIsAsLongAsSaid() {
        Kit.says("Terms", "8, the number of files n (1 .. 3), and for each a byte with its length");
        for (int n = 1; n <= 3; n++) {
            byte[] body = Kit.mainBody(new int[n]);
            byte[] shorter = Arrays.copyOf(body, body.length - 1);
            byte[] longer = Arrays.copyOf(body, body.length + 1);
            scanned("a body for " + n, 1, Kit.packet(Kit.MAIN, Kit.setOf(body), body));
            scanned("one byte less for " + n, NO, Kit.packet(Kit.MAIN, Kit.setOf(shorter), shorter));
            scanned("one byte more for " + n, NO, Kit.packet(Kit.MAIN, Kit.setOf(longer), longer));
        }
        byte[][] bodies = {Kit.bytes(), Kit.bytes(8), Kit.bytes(8, 1)};
        for (byte[] body : bodies) {
            byte[] packet = Kit.packet(Kit.MAIN, Kit.setOf(body), body);
            scanned("a main body of " + body.length, NO, packet);
            // What stands behind must not be taken for the body's end.
            scanned("a main body of " + body.length + ", the rest behind", NO, packet, Kit.bytes(8, 1, 0, 0, 0));
            scanned("a main body of " + body.length + ", zeros behind", NO, packet, Kit.bytes(0, 0, 0, 0, 0));
            scanned("a main body of " + body.length + ", 1 behind", NO, packet, Kit.bytes(1, 1, 1, 1, 1));
        }
    }

    private static void mainSetIsThatOfItsBody() {
        Kit.says("Terms", "The set of a main packet is the first four bytes of the sum of its body.");
        byte[] body = Kit.mainBody(A.length, B.length);
        scanned("its set", 1, Kit.packet(Kit.MAIN, SET, body));
        for (int k = 0; k < 4; k++) {
            for (int bit = 0; bit < 8; bit++) {
                scanned("a set with byte " + k + " altered", NO, Kit.packet(Kit.MAIN, flipped(SET, k, bit), body));
            }
        }
        scanned("another set", NO, Kit.packet(Kit.MAIN, OTHER_SET, body));
        scanned("the set of another body", NO, Kit.packet(Kit.MAIN, Kit.setOf(Kit.mainBody(1)), body));
    }

    private static void mainIsTheFirst() {
        Kit.says("Terms",
                "The MAIN packet is the first one of that type whose body is as said and whose set is that of its body");
        byte[] other = Kit.mainPacket(1);
        byte[] wrongSet = Kit.packet(Kit.MAIN, OTHER_SET, Kit.mainBody(1));
        scanned("a wrong body before", 2, Kit.mainPacket(41), MAIN, FILE);
        scanned("a wrong set before", 2, wrongSet, MAIN, FILE);
        scanned("a broken one before", 2, flipped(other, 28, 0), MAIN, FILE);
        scanned("another behind", 2, MAIN, other, FILE);
        scanned("another before", 1, other, MAIN, FILE);
        scanned("another behind its packets", 1, other, FILE, MAIN);
        scanned("another behind, its packets before", 2, FILE, MAIN, other);
        scanned("main twice", 1, MAIN, MAIN);
        scanned("main twice with a file", 2, MAIN, FILE, MAIN);
        scanned("main body in other types", NO, Kit.packet(76, SET, Kit.mainBody(A.length, B.length)),
                Kit.packet(78, SET, Kit.mainBody(A.length, B.length)));
    }

    private static void countsBeforeAndBehind() {
        Kit.says("Terms", "File, checks and recovery packets count, before it or behind it");
        scanned("all behind", 104, MAIN, FILE, CHECKS, RECOVERY);
        scanned("all before", 104, RECOVERY, CHECKS, FILE, MAIN);
        scanned("on both sides", 104, RECOVERY, MAIN, CHECKS, FILE);
        scanned("for each file", 5, Kit.checksPacket(SET, 0, A), FILE, MAIN, Kit.filePacket(SET, 0, A), CHECKS,
                Kit.packet(1, SET, Kit.bytes(1)), Kit.packet(Kit.CHECKS, OTHER_SET, Kit.bytes(0)),
                Kit.packet(Kit.RECOVERY, SET, new byte[10]), Kit.packet(Kit.FILE, OTHER_SET, Kit.bytes(0)), MAIN, FILE);
    }

    private static void countsWithTheSetOfMain() {
        Kit.says("Terms", "if they have its set");
        for (int k = 0; k < 4; k++) {
            for (int bit = 0; bit < 8; bit++) {
                byte[] set = flipped(SET, k, bit);
                scanned("byte " + k + " of the set altered", 1, MAIN, Kit.filePacket(set, 1, B),
                        Kit.checksPacket(set, 1, B), Kit.recoveryPacket(set, 7, R));
            }
        }
        scanned("another set before main", 1, Kit.filePacket(OTHER_SET, 1, B), Kit.checksPacket(OTHER_SET, 1, B),
                Kit.recoveryPacket(OTHER_SET, 7, R), MAIN);
    }

    private static void countsForFilesOfMain() {
        Kit.says("Terms", "for one of its files");
        for (int n = 1; n <= 3; n++) {
            byte[] main = Kit.mainPacket(Arrays.copyOf(new int[] {3, 3, 3}, n));
            byte[] set = Kit.setOf(Kit.mainBody(Arrays.copyOf(new int[] {3, 3, 3}, n)));
            for (int f : new int[] {0, 1, 2, 3, 4, 127, 128, 255}) {
                int want = f < n ? 2 : 1;
                // The length that a further file would have stands behind main.
                byte[] asIfTold = Kit.bytes(3, 3, 3);
                scanned("file " + f + " of " + n, want, Kit.filePacket(set, f, B), main, asIfTold);
                scanned("checks " + f + " of " + n, want, Kit.checksPacket(set, f, B), main, asIfTold);
                scanned("checks " + f + " of " + n + " without slices", 1, Kit.checksPacket(set, f, Kit.bytes()), main);
                scanned("file " + f + " of " + n + " without bytes", 1, Kit.filePacket(set, f, Kit.bytes()), main);
            }
        }
    }

    private static void fileTellsTheLength() {
        Kit.says("Terms", "with the length that it tells");
        for (int told : new int[] {0, 1, 8, 39, 40}) {
            byte[] main = Kit.mainPacket(0, told);
            byte[] set = Kit.setOf(Kit.mainBody(0, told));
            for (int n : new int[] {0, 1, 2, 7, 8, 9, 38, 39, 40, 41, 128 + told, 255}) {
                scanned("a file of " + n + ", told " + told, n == told ? 2 : 1, main,
                        Kit.packet(Kit.FILE, set, Kit.join(Kit.bytes(1, n), new byte[16])));
            }
        }
        scanned("the length of another file", 1, MAIN, Kit.filePacket(SET, 1, A));
    }

    private static void fileBodyHasEighteen() {
        Kit.says("Terms", "FILE (70): its number, its length, its sum.");
        for (int n = 0; n <= 40; n++) {
            byte[] body = Arrays.copyOf(Kit.bytes(1, B.length), n);
            scanned("a file body of " + n, n == 18 ? 2 : 1, MAIN, Kit.packet(Kit.FILE, SET, body));
        }
        scanned("any sum in it", 2, MAIN,
                Kit.packet(Kit.FILE, SET, Kit.join(Kit.bytes(1, B.length), Kit.some(16, 1))));
    }

    private static void checksHaveAsManySlices() {
        Kit.says("Terms", "and as many slices");
        for (int told : new int[] {0, 1, 7, 8, 9, 16, 17, 32, 33, 40}) {
            int due = 1 + 20 * ((told + 7) / 8);
            byte[] main = Kit.mainPacket(0, told);
            byte[] set = Kit.setOf(Kit.mainBody(0, told));
            for (int n : new int[] {0, 1, 2, 20, 21, 22, 41, 61, 80, 81, 82, 100, 101, 102, 121, due - 1, due + 1}) {
                byte[] body = Arrays.copyOf(Kit.bytes(1), n);
                scanned("a checks body of " + n + ", told " + told, n == due ? 2 : 1, main, Kit.packet(Kit.CHECKS,
                        set, body));
            }
        }
        scanned("another length with as many slices", 2, MAIN, Kit.checksPacket(SET, 1, Kit.text("eight ..")));
        scanned("the slices of another file", 1, MAIN, Kit.checksPacket(SET, 1, A));
    }

    private static void recoveryHasNineBytes() {
        Kit.says("Terms", "a recovery has nine bytes");
        for (int n = 0; n <= 30; n++) {
            scanned("a recovery of " + n, n == 9 ? 102 : 1, MAIN, Kit.packet(Kit.RECOVERY, SET, new byte[n]));
        }
        scanned("one of 265", 1, MAIN, Kit.packet(Kit.RECOVERY, SET, new byte[265]));
    }

    private static void recoveryHasAnyExponent() {
        Kit.says("Terms", "RECOVERY (82): the exponent, a byte");
        for (int e = 0; e < 256; e++) {
            scanned("exponent " + e, 102, MAIN, Kit.recoveryPacket(SET, e, R));
        }
        scanned("least and greatest", 203, MAIN, Kit.recoveryPacket(SET, 255, R), Kit.recoveryPacket(SET, 0, R));
    }

    private static void otherTypesDoNotCount() {
        Kit.says("Terms", "File, checks and recovery packets count");
        byte[] fileBody = Arrays.copyOfRange(FILE, 26, FILE.length);
        byte[] checksBody = Arrays.copyOfRange(CHECKS, 26, CHECKS.length);
        for (int type = 0; type < 256; type++) {
            scanned("a file's body in type " + type, type == Kit.FILE ? 2 : 1, MAIN, Kit.packet(type, SET, fileBody));
            scanned("a checks' body in type " + type, type == Kit.CHECKS ? 2 : 1, MAIN, Kit.packet(type, SET,
                    checksBody));
            scanned("a recovery's body in type " + type, type == Kit.RECOVERY ? 102 : 1, MAIN,
                    Kit.packet(type, SET, new byte[9]));
        }
    }

    private static void countsOnce() {
        Kit.says("Terms", "none before them that counts has the same type and the same first byte of the body");
        scanned("a file twice", 2, MAIN, FILE, FILE);
        scanned("checks twice", 2, MAIN, CHECKS, CHECKS);
        scanned("a recovery twice", 102, MAIN, RECOVERY, RECOVERY);
        scanned("a recovery with another slice", 102, MAIN, RECOVERY, Kit.recoveryPacket(SET, 7, Kit.text("another!")));
        scanned("on both sides of main", 3, FILE, CHECKS, MAIN, CHECKS, FILE);
        scanned("other first bytes", 304, MAIN, Kit.recoveryPacket(SET, 6, R), RECOVERY, Kit.recoveryPacket(SET, 8, R));
        scanned("other files", 3, MAIN, FILE, Kit.filePacket(SET, 0, A));
        scanned("the same first byte in other types", 104, MAIN, FILE, CHECKS, Kit.recoveryPacket(SET, 1, R));
    }

    private static void countsTheFirstThatCounts() {
        Kit.says("Terms", "none before them that counts");
        scanned("a file before that does not count", 2, MAIN, Kit.filePacket(SET, 1, A), FILE);
        scanned("a file of another set before", 2, MAIN, Kit.filePacket(OTHER_SET, 1, B), FILE);
        scanned("checks before that do not count", 2, MAIN, Kit.checksPacket(SET, 1, A), CHECKS);
        scanned("checks of another set before", 2, MAIN, Kit.checksPacket(OTHER_SET, 1, B), CHECKS);
        scanned("a recovery before that does not count", 102, MAIN, Kit.packet(Kit.RECOVERY, SET, Kit.bytes(7)),
                RECOVERY);
        scanned("a recovery of another set before", 102, MAIN, Kit.recoveryPacket(OTHER_SET, 7, R), RECOVERY);
        scanned("a broken one before", 102, MAIN, flipped(RECOVERY, 30, 0), RECOVERY);
    }
}
