import java.util.Arrays;

/** Promises 12 and 13: which slices are damaged, and what repairing makes of them. */
public final class RepairTest {
    private static final byte[] A = Kit.text("A file of three slices");
    private static final byte[] B = Kit.text("of two slices");
    private static final byte[] C = Kit.text("of four slices, the last one");

    public static void main(String[] args) {
        allSubsets();
        lengths();
        zerosBehind();
        checksPackets();
        lostChangesNothing();
        wrongChangesNothing();
        withoutFilePacket();
        leastExponentsFirst();
        dependentPowers();
        twelveOutOfNothing();
        filesThatAreNotProtected();
        emptyFiles();
        Kit.finish();
    }

    private static ParityVolume protectedFiles(int r) {
        ParityVolume x = new ParityVolume();
        Kit.write(x, 0, A);
        Kit.write(x, 1, B);
        Kit.write(x, 2, C);
        x.protect(r);
        return x;
    }

    private static void filesAre(String what, ParityVolume x, byte[] a, byte[] b, byte[] c) {
        Kit.due(what + ", file 0", Kit.content(x, 0), a);
        Kit.due(what + ", file 1", Kit.content(x, 1), b);
        Kit.due(what + ", file 2", Kit.content(x, 2), c);
    }

    private static void damageSlice(ParityVolume x, int j) {
        int f = j < 3 ? 0 : j < 5 ? 1 : 2;
        int i = 8 * (j - (f == 0 ? 0 : f == 1 ? 3 : 5)) + 1;
        Kit.due("damage", x.damage(f, i, x.at(f, i) ^ 1 << j % 8), true);
    }

    private static void allSubsets() {
        for (int bits = 0; bits < 512; bits++) {
            ParityVolume x = protectedFiles(bits % 7);
            for (int j = 0; j < 9; j++) {
                if ((bits >> j & 1) != 0) {
                    damageSlice(x, j);
                }
            }
            int d = Integer.bitCount(bits);
            Kit.due("verify", x.verify(), bits);
            Kit.due("repair of " + bits, x.repair(), d > bits % 7 ? ParityVolume.LOST : d);
            Kit.due("verify behind", x.verify(), d > bits % 7 ? bits : 0);
            if (d <= bits % 7) {
                filesAre("repaired", x, A, B, C);
            }
        }
    }

    private static void lengths() {
        ParityVolume x = protectedFiles(2);
        Kit.write(x, 1, Kit.join(B, Kit.text("+ more of it")));
        Kit.due("bytes behind the length do not matter", x.verify(), 0);
        Kit.due("none is damaged", x.repair(), 0);
        filesAre("the length is as told all the same", x, A, B, C);
        x.shorten(0, 7);
        Kit.due("a part of a slice and a whole one lack", x.verify(), 6);
        Kit.due("shortened", x.repair(), 2);
        filesAre("its bytes are back", x, A, B, C);
        Kit.due("the volume stays", x.scan(), 209);
        Kit.write(x, 1, Kit.bytes());
        Kit.due("an emptied file", x.verify(), 24);
        Kit.due("is made again", x.repair(), 2);
        filesAre("all of it", x, A, B, C);
        Kit.write(x, 0, B);
        Kit.write(x, 1, A);
        Kit.due("files changed for one another", x.repair(), ParityVolume.LOST);
        filesAre("stay", x, B, A, C);
    }

    private static void zerosBehind() {
        ParityVolume x = new ParityVolume();
        byte[] zeros = Kit.join(Kit.text("ab"), new byte[20]);
        Kit.write(x, 0, zeros);
        x.protect(0);
        x.damage(0, 5, 99);
        x.damage(0, 21, 98);
        Kit.due("damaged", x.verify(), 5);
        x.shorten(0, 20);
        Kit.due("what is not there counts as 0", x.verify(), 0);
        Kit.due("and is 0 then", x.repair(), 0);
        Kit.due("file", Kit.content(x, 0), zeros);
        x.shorten(0, 21);
        Kit.due("but a byte lacks", x.verify(), 1);
        Kit.due("that can't be made", x.repair(), ParityVolume.LOST);
        Kit.due("and the length stays", x.length(0), 1);
    }

    private static void checksPackets() {
        ParityVolume x = protectedFiles(3);
        int checksOfB = 31 + 44 + 87 + 44;
        Kit.due("its type", x.byteAt(checksOfB + 3), 'I');
        x.alter(checksOfB + 30, x.byteAt(checksOfB + 30) ^ 1);
        Kit.due("no checks, so all are damaged", x.verify(), 24);
        Kit.due("are made again", x.repair(), 2);
        Kit.due("and still damaged", x.verify(), 24);
        filesAre("though right", x, A, B, C);

        byte[] set = Kit.setOf(Kit.mainBody(A.length, B.length, C.length));
        byte[] told = Arrays.copyOfRange(Kit.checksPacket(set, 1, B), 26, 26 + 41);
        for (int i = 1; i < told.length; i++) {
            ParityVolume y = protectedFiles(3);
            byte[] other = told.clone();
            other[i] ^= (byte) 128;
            Kit.plant(y, checksOfB, Kit.packet(Kit.CHECKS, set, other));
            Kit.due("all count", y.scan(), 310);
            Kit.due("check and sum must be right, byte " + i, y.verify(), i < 21 ? 8 : 16);
        }
    }

    private static void lostChangesNothing() {
        ParityVolume x = protectedFiles(1);
        x.damage(0, 0, 0);
        x.shorten(1, 12);
        byte[] damaged = Kit.content(x, 0);
        Kit.due("three", x.verify(), 1 + 8 + 16);
        Kit.due("too many", x.repair(), ParityVolume.LOST);
        filesAre("lost", x, damaged, Kit.text("o"), C);
        ParityVolume y = protectedFiles(0);
        Kit.write(y, 1, Kit.join(B, Kit.text("more")));
        y.damage(2, 0, 0);
        Kit.due("none there", y.repair(), ParityVolume.LOST);
        Kit.due("a length that is not as told stays", y.length(1), B.length + 4);
        y.alter(0, 0);
        Kit.due("nothing protected", y.repair(), ParityVolume.NOTHING);
        Kit.due("nothing protected", y.verify(), ParityVolume.NOTHING);
        Kit.due("stays, too", y.length(1), B.length + 4);
    }

    private static void wrongChangesNothing() {
        byte[] set = Kit.setOf(Kit.mainBody(A.length, B.length, C.length));
        int recoveries = protectedFiles(0).volume();
        ParityVolume x = protectedFiles(1);
        Kit.plant(x, recoveries, Kit.recoveryPacket(set, 0, Kit.text("nonsense")));
        x.damage(1, 3, 0);
        byte[] damaged = Kit.content(x, 1);
        x.shorten(2, 0);
        Kit.due("what is made is wrong", x.repair(), ParityVolume.WRONG);
        filesAre("wrong", x, A, damaged, C);

        ParityVolume y = protectedFiles(1);
        Kit.plant(y, 31, Kit.filePacket(set, 0, Kit.text("another of three slice")));
        Kit.due("all count", y.scan(), 108);
        Kit.due("none is damaged", y.verify(), 0);
        Kit.write(y, 1, Kit.join(B, Kit.text("?")));
        Kit.due("wrong with none damaged, too", y.repair(), ParityVolume.WRONG);
        filesAre("wrong and none damaged", y, A, Kit.join(B, Kit.text("?")), C);
        y.damage(2, 0, 0);
        Kit.due("wrong in another file than the damaged one", y.repair(), ParityVolume.WRONG);
        Kit.due("stays", y.at(2, 0), 0);
        y.damage(2, 8, 0);
        Kit.due("LOST comes before it", y.repair(), ParityVolume.LOST);
    }

    private static void withoutFilePacket() {
        byte[] set = Kit.setOf(Kit.mainBody(A.length, B.length, C.length));
        int recoveries = protectedFiles(0).volume();
        ParityVolume x = protectedFiles(1);
        byte[] wrongBy = Kit.recoverySlice(0, A, B, C);
        for (int k = 0; k < 8; k++) {
            wrongBy[k] ^= (byte) (k + 1);
        }
        Kit.plant(x, recoveries, Kit.recoveryPacket(set, 0, wrongBy));
        x.alter(31 + 44 + 87, 0);
        x.damage(1, 9, 0);
        Kit.due("one", x.verify(), 16);
        Kit.due("without a file packet it is as it is made", x.repair(), 1);
        byte[] made = B.clone();
        for (int k = 0; k < 5; k++) {
            made[8 + k] ^= (byte) (k + 1);
        }
        filesAre("made", x, A, made, C);
        Kit.due("it is damaged still", x.verify(), 16);
    }

    private static void leastExponentsFirst() {
        byte[] set = Kit.setOf(Kit.mainBody(A.length, B.length, C.length));
        int recoveries = protectedFiles(0).volume();
        ParityVolume x = protectedFiles(4);
        // Exponents 9 (wrong), 3, 200, 3 again (wrong): 3 and 200 are not both taken while 9 is there.
        Kit.plant(x, recoveries, Kit.recoveryPacket(set, 9, Kit.text("nonsense")));
        Kit.plant(x, recoveries + 35, Kit.recoveryPacket(set, 3, Kit.recoverySlice(3, A, B, C)));
        Kit.plant(x, recoveries + 70, Kit.recoveryPacket(set, 200, Kit.recoverySlice(200, A, B, C)));
        Kit.plant(x, recoveries + 105, Kit.recoveryPacket(set, 3, Kit.text("nonsense")));
        Kit.due("three count", x.scan(), 310);
        x.damage(2, 0, 0);
        Kit.due("the least is 3", x.repair(), 1);
        Kit.due("repaired", x.verify(), 0);
        x.damage(2, 0, 0);
        x.damage(0, 0, 0);
        Kit.due("9 is the next", x.repair(), ParityVolume.WRONG);
        x.alter(recoveries + 5, 1);
        Kit.due("9 has gone", x.scan(), 209);
        Kit.due("200 is the next", x.repair(), 2);
        Kit.due("repaired", x.verify(), 0);
        x.alter(recoveries + 36, 1);
        x.damage(1, 0, 0);
        Kit.due("3 has gone, so the later one counts", x.repair(), ParityVolume.WRONG);
        x.alter(recoveries + 106, 1);
        Kit.due("200 alone", x.repair(), 1);
        Kit.due("repaired", x.verify(), 0);
        x.damage(1, 0, 0);
        x.damage(1, 12, 0);
        Kit.due("one is not enough", x.repair(), ParityVolume.LOST);
    }

    private static void dependentPowers() {
        // The powers 0, 44 and 135 of the bases of slices 0, 1 and 3 depend on one another; there are 4 slices here.
        byte[] file = Kit.text("four slices, just as many bytes!");
        byte[] set = Kit.setOf(Kit.mainBody(32, 0, 0));
        ParityVolume x = new ParityVolume();
        Kit.write(x, 0, file);
        int end = x.protect(0);
        x.protect(4);
        Kit.plant(x, end, Kit.recoveryPacket(set, 135, Kit.text("nonsense")));
        Kit.plant(x, end + 35, Kit.recoveryPacket(set, 44, Kit.recoverySlice(44, file)));
        Kit.plant(x, end + 70, Kit.recoveryPacket(set, 0, Kit.recoverySlice(0, file)));
        Kit.plant(x, end + 105, Kit.recoveryPacket(set, 136, Kit.recoverySlice(136, file)));
        Kit.due("four count", x.scan(), 411);
        x.damage(0, 0, 0);
        x.damage(0, 8, 0);
        x.damage(0, 24, 0);
        Kit.due("slices 0, 1, 3", x.verify(), 11);
        Kit.due("135 is left out", x.repair(), 3);
        Kit.due("repaired", Kit.content(x, 0), file);
        x.damage(0, 0, 0);
        x.damage(0, 8, 0);
        x.damage(0, 16, 0);
        Kit.due("with slices 0, 1, 2 it is taken", x.repair(), ParityVolume.WRONG);
        x.damage(0, 16, file[16]);
        x.damage(0, 24, 0);
        x.alter(end + 105, 0);
        Kit.due("three count", x.scan(), 310);
        Kit.due("three that are worth two", x.repair(), ParityVolume.LOST);
        x.damage(0, 24, file[24]);
        Kit.due("two of two", x.repair(), 2);
        Kit.due("repaired", Kit.content(x, 0), file);
    }

    private static void twelveOutOfNothing() {
        byte[] a = Kit.text("Forty bytes that nobody has typed here, ");
        byte[] b = Kit.text("and these neither; yet they will be ther");
        byte[] c = Kit.text("e in the end. ..");
        byte[] set = Kit.setOf(Kit.mainBody(40, 40, 16));
        byte[] all = Kit.mainPacket(40, 40, 16);
        int[] exponents = {255, 0, 3, 77, 5, 100, 200, 64, 31, 32, 1, 2};
        for (int e : exponents) {
            all = Kit.join(all, Kit.recoveryPacket(set, e, Kit.recoverySlice(e, a, b, c)));
        }
        for (int f = 0; f < 3; f++) {
            ParityVolume x = new ParityVolume();
            x.protect(6);
            Kit.plantAll(x, all);
            Kit.due("scan", x.scan(), 1213);
            Kit.due("verify", x.verify(), 4095);
            Kit.due("repair", x.repair(), 12);
            Kit.due("a file out of nothing", Kit.content(x, f), f == 0 ? a : f == 1 ? b : c);
        }
    }

    private static void filesThatAreNotProtected() {
        byte[] set = Kit.setOf(Kit.mainBody(A.length));
        ParityVolume x = protectedFiles(6);
        Kit.plantAll(x, Kit.checksPacket(set, 0, A), Kit.mainPacket(A.length), Kit.filePacket(set, 0, A),
                Kit.recoveryPacket(set, 1, Kit.recoverySlice(1, A)), Kit.checksPacket(set, 1, B));
        x.damage(0, 8, 0);
        x.damage(1, 0, 1);
        x.shorten(2, 3);
        Kit.due("scan", x.scan(), 104);
        Kit.due("file 0 alone", x.verify(), 2);
        Kit.due("is repaired", x.repair(), 1);
        byte[] b = B.clone();
        b[0] = 1;
        filesAre("the others stay", x, A, b, Arrays.copyOf(C, C.length - 3));
    }

    private static void emptyFiles() {
        ParityVolume x = new ParityVolume();
        x.protect(6);
        Kit.due("none", x.verify(), 0);
        Kit.due("none", x.repair(), 0);
        Kit.write(x, 2, C);
        Kit.due("still none", x.verify(), 0);
        Kit.due("an empty file is so again", x.repair(), 0);
        Kit.due("empty", x.length(2), 0);
    }
}
