/** Promise 11: which packets count. */
public final class ScanTest {
    private static final byte[] A = Kit.text("file zero, 3 slices");
    private static final byte[] B = Kit.text("one");
    private static final byte[] SET = Kit.setOf(Kit.mainBody(A.length, B.length));
    private static final byte[] MAIN = Kit.mainPacket(A.length, B.length);
    private static final byte[] R = Kit.text("recovery");
    private static final byte[] OTHER_SET = Kit.bytes(1, 2, 3, 4);

    public static void main(String[] args) {
        ordinary();
        mainPackets();
        otherPackets();
        twice();
        placesOfPackets();
        longPackets();
        Kit.finish();
    }

    /** What scan answers for a volume of these bytes. */
    private static void scanned(String what, int want, byte[]... parts) {
        ParityVolume x = new ParityVolume();
        x.protect(6);
        Kit.plantAll(x, parts);
        Kit.due(what, x.scan(), want);
        Kit.due(what + ", again", x.scan(), want);
    }

    private static void ordinary() {
        ParityVolume x = new ParityVolume();
        Kit.due("empty", x.scan(), ParityVolume.NOTHING);
        for (int r = 0; r <= 6; r++) {
            x.protect(r);
            Kit.due("protected with " + r, x.scan(), 7 + r + 100 * r);
        }
        Kit.due("alter a recovery's last byte", x.alter(453, x.byteAt(453) ^ 1), true);
        Kit.due("one less", x.scan(), 512);
        Kit.due("cut one byte of another", x.cut(410, 1), true);
        Kit.due("two less", x.scan(), 411);
        Kit.due("alter a file packet's set", x.alter(31 + 22, 0), true);
        Kit.due("three less", x.scan(), 410);
        Kit.due("cut before all", x.cut(0, 31), true);
        Kit.due("no main packet", x.scan(), ParityVolume.NOTHING);
    }

    private static void mainPackets() {
        scanned("main alone", 1, MAIN);
        scanned("one file", 1, Kit.mainPacket(0));
        scanned("three files of 12 slices", 1, Kit.mainPacket(40, 40, 16));
        scanned("three files of 12 slices, other lengths", 1, Kit.mainPacket(33, 25, 17));
        int no = ParityVolume.NOTHING;
        scanned("13 slices", no, Kit.mainPacket(40, 40, 17));
        scanned("no file", no, Kit.mainPacket());
        scanned("four files", no, Kit.mainPacket(0, 0, 0, 0));
        scanned("41 bytes", no, Kit.mainPacket(41));
        scanned("255 bytes", no, Kit.mainPacket(0, 255));
        byte[][] bodies = {Kit.bytes(9, 1, 0), Kit.bytes(8, 2, 0), Kit.bytes(8, 1, 0, 0), Kit.bytes(8, 1), Kit.bytes(8),
            Kit.bytes(), Kit.bytes(0, 1, 0)};
        for (byte[] body : bodies) {
            scanned("a main body of " + body.length, no, Kit.packet(Kit.MAIN, Kit.setOf(body), body));
        }
        scanned("main body in another type", no, Kit.packet(78, SET, Kit.mainBody(A.length, B.length)));
        scanned("another set", no, Kit.packet(Kit.MAIN, OTHER_SET, Kit.mainBody(A.length, B.length)));
        byte[] nearly = SET.clone();
        nearly[3] ^= 1;
        scanned("a set that is nearly right", no, Kit.packet(Kit.MAIN, nearly, Kit.mainBody(A.length, B.length)));
        scanned("a wrong main before", 2, Kit.mainPacket(41), MAIN, Kit.filePacket(SET, 0, A));
        scanned("the first main is the one", 2, MAIN, Kit.mainPacket(1), Kit.filePacket(SET, 0, A));
        scanned("the first main, not the second", 1, Kit.mainPacket(1), MAIN, Kit.filePacket(SET, 0, A));
        scanned("main twice", 1, MAIN, MAIN);
    }

    private static void otherPackets() {
        byte[] file = Kit.filePacket(SET, 0, A);
        byte[] checks = Kit.checksPacket(SET, 0, A);
        byte[] recovery = Kit.recoveryPacket(SET, 255, R);
        scanned("all", 104, MAIN, file, checks, recovery);
        scanned("all before main", 104, recovery, checks, file, MAIN);
        scanned("on both sides", 104, recovery, MAIN, checks, file);
        scanned("without main", ParityVolume.NOTHING, recovery, checks, file);
        scanned("another set", 1, MAIN, Kit.filePacket(OTHER_SET, 0, A), Kit.checksPacket(OTHER_SET, 0, A),
                Kit.recoveryPacket(OTHER_SET, 0, R));
        scanned("file 2 of two", 1, MAIN, Kit.filePacket(SET, 2, A));
        scanned("checks of file 2 of two", 1, MAIN, Kit.checksPacket(SET, 2, Kit.bytes()));
        byte[] asIfTold = Kit.bytes(A.length);
        scanned("file 2 of two, its length behind main", 1, Kit.filePacket(SET, 2, A), MAIN, asIfTold);
        scanned("checks of file 2 of two, its length behind main", 1, Kit.checksPacket(SET, 2, A), MAIN, asIfTold);
        scanned("file 255", 1, MAIN, Kit.filePacket(SET, 255, A), Kit.checksPacket(SET, 255, A));
        scanned("another length", 1, MAIN, Kit.filePacket(SET, 1, A));
        scanned("another number of slices", 1, MAIN, Kit.checksPacket(SET, 1, A));
        scanned("no slices", 1, MAIN, Kit.checksPacket(SET, 1, Kit.bytes()));
        scanned("another length with as many slices", 2, MAIN, Kit.checksPacket(SET, 1, Kit.text("eight ..")));
        scanned("a file packet that is too short", 1, MAIN,
                Kit.packet(Kit.FILE, SET, Kit.join(Kit.bytes(1, 3), new byte[15])));
        scanned("a file packet that is too long", 1, MAIN,
                Kit.packet(Kit.FILE, SET, Kit.join(Kit.bytes(1, 3), new byte[17])));
        scanned("a wrong sum within it is as good", 2, MAIN,
                Kit.packet(Kit.FILE, SET, Kit.join(Kit.bytes(1, 3), new byte[16])));
        scanned("bodies of none", 1, MAIN, Kit.packet(Kit.FILE, SET, Kit.bytes()),
                Kit.packet(Kit.CHECKS, SET, Kit.bytes()), Kit.packet(Kit.RECOVERY, SET, Kit.bytes()));
        scanned("recoveries of 8 and 10", 1, MAIN, Kit.packet(Kit.RECOVERY, SET, new byte[8]),
                Kit.packet(Kit.RECOVERY, SET, new byte[10]));
        scanned("an unknown type", 1, MAIN, Kit.packet(0, SET, Kit.bytes(0)));
        byte[] emptySet = Kit.setOf(Kit.mainBody(0));
        scanned("an empty file's", 3, Kit.mainPacket(0), Kit.checksPacket(emptySet, 0, Kit.bytes()),
                Kit.filePacket(emptySet, 0, Kit.bytes()));
    }

    private static void twice() {
        byte[] file = Kit.filePacket(SET, 1, B);
        byte[] checks = Kit.checksPacket(SET, 1, B);
        scanned("file and checks twice", 3, file, checks, MAIN, checks, file);
        scanned("a recovery twice", 102, MAIN, Kit.recoveryPacket(SET, 7, R),
                Kit.recoveryPacket(SET, 7, Kit.text("another!")));
        scanned("other exponents", 304, MAIN, Kit.recoveryPacket(SET, 7, R), Kit.recoveryPacket(SET, 0, R),
                Kit.recoveryPacket(SET, 254, R));
        scanned("one before that does not count", 2, MAIN, Kit.filePacket(SET, 1, A), file);
        scanned("one before of another set", 2, MAIN, Kit.filePacket(OTHER_SET, 1, B), file);
        scanned("same first byte, other types", 104, MAIN, file, checks, Kit.recoveryPacket(SET, 1, R));
    }

    private static void placesOfPackets() {
        scanned("bytes between", 2, Kit.bytes(1, 80, 75, 84, 80, 80, 75), MAIN, Kit.bytes(80, 75),
                Kit.filePacket(SET, 1, B), Kit.bytes(80));
        byte[] broken = Kit.packet(5, SET, MAIN);
        scanned("a packet in another's body", ParityVolume.NOTHING, broken);
        broken[6] ^= 1;
        scanned("that is no packet", 1, broken);
        scanned("a packet in a body that is not all there", 1, Kit.bytes(80, 75, 84, 5, 255, 255), new byte[20], MAIN);
        byte[] last = Kit.filePacket(SET, 1, B);
        scanned("the last byte is missing", 1, MAIN, java.util.Arrays.copyOf(last, last.length - 1));
        scanned("only its head", 1, MAIN, java.util.Arrays.copyOf(last, 26));
        scanned("not all of its head", 1, MAIN, java.util.Arrays.copyOf(last, 25));
        scanned("a main without its end", ParityVolume.NOTHING, java.util.Arrays.copyOf(MAIN, MAIN.length - 1));
        for (int i = 0; i < MAIN.length; i++) {
            byte[] bad = MAIN.clone();
            bad[i] ^= 4;
            scanned("main with byte " + i + " altered", ParityVolume.NOTHING, bad);
        }
    }

    private static void longPackets() {
        byte[] body = new byte[300];
        System.arraycopy(Kit.mainPacket(2), 0, body, 100, Kit.mainPacket(2).length);
        scanned("a long body", 2, Kit.packet(200, OTHER_SET, body), MAIN, Kit.filePacket(SET, 1, B));
        for (int n = 45; n < 125; n++) {
            scanned("a body of " + n, 1, Kit.packet(200, SET, new byte[n]), MAIN);
            byte[] inner = Kit.join(new byte[n - 30], Kit.mainPacket(2));
            scanned("a body round a main", ParityVolume.NOTHING, Kit.packet(77, SET, inner));
        }
    }
}
