import java.util.Arrays;
import java.util.function.Supplier;

/** Promises 12 and 13 and the terms of slices and repairing: a method for each sentence that names a boundary. */
public final class RepairTest {
    private static final int NO = ParityVolume.NOTHING;
    private static final int LOST = ParityVolume.LOST;
    private static final int WRONG = ParityVolume.WRONG;
    private static final byte[] A = Kit.text("A file of three slices");
    private static final byte[] B = Kit.text("of two slices");
    private static final byte[] C = Kit.text("of four slices, the last one");
    private static final byte[] SET = Kit.setOf(Kit.mainBody(A.length, B.length, C.length));
    private static final int[] FILE_AT = {31, 31 + 44 + 87, 31 + 44 + 87 + 44 + 67};
    private static final int CHECKS_OF_B = FILE_AT[1] + 44;
    private static final int RECOVERIES = FILE_AT[2] + 44 + 107;
    private static final byte[][] TWELVE = {Kit.some(40, 1), Kit.some(40, 2), Kit.some(16, 3)};

    public static void main(String[] args) {
        verifyTellsEachSlice();
        verifyTellsAllSlices();
        verifyTellsNothing();
        bytesBehindTheLengthDoNotMatter();
        bytesThatLackAreZero();
        withoutChecksAllAreDamaged();
        checkAndSumAreThoseTold();

        repairOfEachSet();
        repairWithNoneDamaged();
        repairOfShortenedFiles();
        repairTellsNothing();
        repairTakesAsManyAsAreDamaged();
        repairIsLostWithOneMore();
        repairIsWrongByEachByteOfASum();
        repairIsWrongByTheSlicesMade();
        repairIsWrongWithNoneDamaged();
        repairIsLostBeforeWrong();
        repairIsNotWrongWithoutFilePacket();
        repairIsNotWrongByFilePacketsThatDoNotCount();
        repairMakesNoBytesBehindTheLength();

        leastExponentsFirst();
        untilEnoughAreTaken();
        dependentPowersAreLeftOut();
        earlierRepairsLeaveNothing();
        twelveOutOfNothing();
        filesThatAreNotProtectedStay();
        emptyFiles();
        Kit.finish();
    }

    private static ParityVolume protectedFiles(int r) {
        ParityVolume x = Kit.withFiles(A, B, C);
        Kit.due("protect", x.protect(r), RECOVERIES + 35 * r);
        return x;
    }

    private static ParityVolume twelve(int r) {
        ParityVolume x = Kit.withFiles(TWELVE);
        x.protect(r);
        return x;
    }

    private static void filesAre(String what, ParityVolume x, byte[]... files) {
        for (int f = 0; f < 3; f++) {
            Kit.due(what + ", file " + f, Kit.content(x, f), files[f]);
        }
    }

    private static void damageSlice(ParityVolume x, int j) {
        int f = j < 3 ? 0 : j < 5 ? 1 : 2;
        int i = 8 * (j - (f == 0 ? 0 : f == 1 ? 3 : 5)) + 1;
        Kit.due("damage", x.damage(f, i, x.at(f, i) ^ 1 << j % 8), true);
    }

    private static void damageOfTwelve(ParityVolume x, int j) {
        int i = 8 * (j % 5) + j % 8;
        Kit.due("damage", x.damage(j / 5, i, TWELVE[j / 5][i] & 255 ^ 128), true);
    }

    private static void verifyTellsEachSlice() {
        Kit.says("Promise 12", "The damaged slices, slice j as 2^j");
        State.stays("none", () -> twelve(0), x -> x.verify(), 0);
        for (int j = 0; j < 12; j++) {
            int slice = j;
            State.stays("slice " + j, () -> {
                ParityVolume x = twelve(0);
                damageOfTwelve(x, slice);
                return x;
            }, x -> x.verify(), 1 << j);
        }
        for (int i = 0; i < 40; i++) {
            ParityVolume x = twelve(0);
            x.damage(1, i, TWELVE[1][i] & 255 ^ 1);
            Kit.due("byte " + i + " of file 1", x.verify(), 1 << 5 + i / 8);
        }
    }

    private static void verifyTellsAllSlices() {
        Kit.says("Promise 12", "The damaged slices, slice j as 2^j");
        State.stays("all", () -> {
            ParityVolume x = twelve(6);
            for (int j = 0; j < 12; j++) {
                damageOfTwelve(x, j);
            }
            return x;
        }, x -> x.verify(), 4095);
        State.stays("all of emptied files", () -> {
            ParityVolume x = twelve(6);
            x.file(0);
            x.file(1);
            x.file(2);
            return x;
        }, x -> x.verify(), 4095);
    }

    private static void verifyTellsNothing() {
        Kit.says("Promise 12", "NOTHING");
        State.stays("of a new object", ParityVolume::new, x -> x.verify(), NO);
        State.stays("without main", () -> {
            ParityVolume x = twelve(1);
            x.alter(30, 17);
            return x;
        }, x -> x.verify(), NO);
    }

    private static void bytesBehindTheLengthDoNotMatter() {
        Kit.says("Terms", "made of the bytes that the file has, at its places up to the length that is told");
        for (int more = 1; more <= 27; more++) {
            ParityVolume x = protectedFiles(2);
            Kit.write(x, 1, Kit.join(B, Kit.some(more, more)));
            Kit.due(more + " bytes more", x.verify(), 0);
            Kit.due("damage the last that is told", x.damage(1, 12, 0), true);
            Kit.due("it matters", x.verify(), 16);
            Kit.due("put it right", x.damage(1, 12, B[12]), true);
            Kit.due("damage the first behind", x.damage(1, 13, 1), true);
            Kit.due("does not matter", x.verify(), 0);
        }
        ParityVolume x = new ParityVolume();
        x.protect(0);
        Kit.write(x, 0, Kit.some(40, 1));
        Kit.due("a file that is told to be empty", x.verify(), 0);
    }

    private static void bytesThatLackAreZero() {
        Kit.says("Terms", "0s for those that it has not");
        byte[] zeros = Kit.join(Kit.text("ab"), new byte[20]);
        ParityVolume x = Kit.withFiles(zeros);
        x.protect(0);
        x.damage(0, 5, 99);
        x.damage(0, 21, 98);
        Kit.due("damaged", x.verify(), 5);
        x.shorten(0, 20);
        Kit.due("what is not there counts as 0", x.verify(), 0);
        Kit.due("and is 0 then", x.repair(), 0);
        Kit.due("file", Kit.content(x, 0), zeros);
        x.shorten(0, 21);
        Kit.due("but a byte lacks", x.verify(), 1);
        Kit.due("that can't be made", x.repair(), LOST);
        Kit.due("and the length stays", x.length(0), 1);
        ParityVolume y = twelve(0);
        int[] kept = {40, 39, 33, 32, 31, 8, 1, 0};
        int[] bits = {0, 16, 16, 16, 24, 30, 31, 31};
        for (int k = 1; k < kept.length; k++) {
            Kit.due("shorten", y.shorten(0, kept[k - 1] - kept[k]), true);
            Kit.due(kept[k] + " are left", y.verify(), bits[k]);
        }
    }

    private static void withoutChecksAllAreDamaged() {
        Kit.says("Terms", "It is WHOLE if a checks packet counts for the file");
        ParityVolume x = protectedFiles(3);
        Kit.due("its type", x.byteAt(CHECKS_OF_B + 3), 'I');
        x.alter(CHECKS_OF_B + 30, x.byteAt(CHECKS_OF_B + 30) ^ 1);
        Kit.due("all of file 1", x.verify(), 24);
        Kit.due("are made again", x.repair(), 2);
        Kit.due("and still damaged", x.verify(), 24);
        filesAre("though right", x, A, B, C);
        ParityVolume y = protectedFiles(3);
        Kit.plant(y, CHECKS_OF_B, Kit.checksPacket(Kit.bytes(1, 2, 3, 4), 1, B));
        Kit.due("checks of another set", y.verify(), 24);
        Kit.plant(y, CHECKS_OF_B, Kit.checksPacket(SET, 0, B));
        Kit.due("checks of another file", y.verify(), 24);
        Kit.plant(y, CHECKS_OF_B, Kit.checksPacket(SET, 1, B));
        Kit.due("its own", y.verify(), 0);
        byte[] one = Kit.some(8, 1);
        for (int shift = 0; shift < 3; shift++) {
            ParityVolume z = Kit.withFiles(one);
            z.protect(0);
            Kit.plantAll(z, new byte[shift], Kit.check(one), Kit.sum(one), Kit.mainPacket(8));
            Kit.due("what would be told, in no packet", z.verify(), 1);
        }
    }

    private static void checkAndSumAreThoseTold() {
        Kit.says("Terms", "and the slice's check and sum are those told");
        byte[] told = Arrays.copyOfRange(Kit.checksPacket(SET, 1, B), 26, 26 + 41);
        for (int i = 1; i < told.length; i++) {
            for (int bit = 0; bit < 8; bit += 7) {
                ParityVolume y = protectedFiles(3);
                Kit.plant(y, CHECKS_OF_B, Kit.packet(Kit.CHECKS, SET, Kit.with(told, i, told[i] ^ 1 << bit)));
                Kit.due("all count", y.scan(), 310);
                Kit.due("byte " + i + " of the checks' body altered", y.verify(), i < 21 ? 8 : 16);
            }
        }
    }

    private static void repairOfEachSet() {
        Kit.says("Promise 13", "the slices that were damaged are as they are made; how many were");
        for (int bits = 0; bits < 512; bits++) {
            ParityVolume x = protectedFiles(bits % 7);
            for (int j = 0; j < 9; j++) {
                if ((bits >> j & 1) != 0) {
                    damageSlice(x, j);
                }
            }
            int d = Integer.bitCount(bits);
            Kit.due("verify", x.verify(), bits);
            Kit.due("repair of " + bits, x.repair(), d > bits % 7 ? LOST : d);
            Kit.due("verify behind", x.verify(), d > bits % 7 ? bits : 0);
            if (d <= bits % 7) {
                filesAre("repaired", x, A, B, C);
            }
        }
    }

    private static void repairWithNoneDamaged() {
        Kit.says("Promise 13", "how many were (0, too: the lengths are as told all the same)");
        State whole = State.of(() -> protectedFiles(0));
        State.stays("as it is", () -> protectedFiles(0), x -> x.repair(), 0);
        State.becomes("longer files", () -> {
            ParityVolume x = protectedFiles(0);
            Kit.write(x, 0, Kit.join(A, Kit.bytes(1)));
            Kit.write(x, 1, Kit.join(B, Kit.some(27, 1)));
            Kit.write(x, 2, Kit.join(C, new byte[12]));
            return x;
        }, x -> x.repair(), 0, whole);
        byte[] zeros = Kit.join(Kit.text("abc"), new byte[37]);
        byte[] volume = Kit.volumeOf(0, zeros, new byte[9], Kit.bytes());
        State.becomes("shorter files with zeros at the end, and typed bytes", () -> {
            ParityVolume x = Kit.withFiles(zeros, new byte[9], Kit.bytes());
            x.protect(0);
            x.shorten(0, 37);
            x.shorten(1, 9);
            Kit.write(x, 2, A);
            x.type(5, 1);
            return x;
        }, x -> x.repair(), 0, new State(Kit.bytes(5), volume, zeros, new byte[9], Kit.bytes()));
    }

    private static void repairOfShortenedFiles() {
        Kit.says("Promise 13", "the protected files have the lengths that are told");
        ParityVolume x = protectedFiles(2);
        x.shorten(0, 7);
        Kit.due("a part of a slice and a whole one lack", x.verify(), 6);
        Kit.due("shortened", x.repair(), 2);
        filesAre("its bytes are back", x, A, B, C);
        Kit.due("the volume stays", x.scan(), 209);
        Kit.write(x, 1, Kit.bytes());
        Kit.due("an emptied file", x.verify(), 24);
        Kit.due("is made again", x.repair(), 2);
        filesAre("all of it", x, A, B, C);
        State whole = State.of(() -> twelve(5));
        State.becomes("a file of 40 out of none", () -> {
            ParityVolume y = twelve(5);
            y.shorten(1, 40);
            return y;
        }, y -> y.repair(), 5, whole);
        State.becomes("longer and shorter ones", () -> {
            ParityVolume y = twelve(5);
            y.shorten(0, 8);
            y.shorten(1, 1);
            Kit.write(y, 2, Kit.join(TWELVE[2], Kit.some(24, 9)));
            y.damage(2, 15, 99);
            return y;
        }, y -> y.repair(), 3, whole);
    }

    private static void repairTellsNothing() {
        Kit.says("Promise 13", "Nothing changes, when it answers NOTHING");
        State.stays("of a new object", ParityVolume::new, x -> x.repair(), NO);
        State.stays("main has gone", () -> {
            ParityVolume x = State.busy();
            x.cut(0, 31);
            return x;
        }, x -> x.repair(), NO);
        State.stays("main is broken, damaged and longer files", () -> {
            ParityVolume x = protectedFiles(2);
            x.alter(26, 9);
            x.damage(0, 0, 0);
            Kit.write(x, 1, Kit.join(B, B));
            x.shorten(2, 9);
            x.type(9, 2);
            return x;
        }, x -> x.repair(), NO);
    }

    private static Supplier<ParityVolume> damagedTwelve(int r, int d) {
        return () -> {
            ParityVolume x = twelve(r);
            for (int k = 0; k < d; k++) {
                damageOfTwelve(x, (5 * k + r) % 12);
            }
            x.type(0x0102, 2);
            return x;
        };
    }

    private static void repairTakesAsManyAsAreDamaged() {
        Kit.says("Promise 13", "LOST when fewer are taken than there are damaged");
        for (int r = 0; r <= 6; r++) {
            State whole = new State(Kit.bytes(1, 2), Kit.volumeOf(r, TWELVE), TWELVE);
            for (int d = 0; d <= r; d++) {
                State.becomes(d + " damaged, " + r + " there", damagedTwelve(r, d), x -> x.repair(), d, whole);
            }
        }
    }

    private static void repairIsLostWithOneMore() {
        Kit.says("Promise 13",
                "Nothing changes, when it answers NOTHING; LOST when fewer are taken than there are damaged");
        for (int r = 0; r <= 6; r++) {
            for (int d : new int[] {r + 1, r + 2, 12}) {
                State.stays(d + " damaged, " + r + " there", damagedTwelve(r, d), x -> x.repair(), LOST);
            }
        }
        State.stays("lengths that are not as told", () -> {
            ParityVolume x = protectedFiles(0);
            Kit.write(x, 1, Kit.join(B, Kit.text("more")));
            x.shorten(2, 1);
            return x;
        }, x -> x.repair(), LOST);
        State.stays("files changed for one another", () -> {
            ParityVolume x = protectedFiles(2);
            Kit.write(x, 0, B);
            Kit.write(x, 1, A);
            return x;
        }, x -> x.repair(), LOST);
    }

    private static void repairIsWrongByEachByteOfASum() {
        Kit.says("Promise 13",
                "WRONG when a file, with a file packet that counts, would have another sum than that tells");
        byte[][] files = {A, B, C};
        for (int f = 0; f < 3; f++) {
            for (int k = 0; k < 16; k++) {
                int at = FILE_AT[f];
                int damaged = (f + k) % 3;
                byte[] body = Kit.join(Kit.bytes(f, files[f].length), Kit.sum(files[f]));
                byte[] packet = Kit.packet(Kit.FILE, SET, Kit.with(body, 2 + k, body[2 + k] ^ 1 << k % 8));
                State.stays("byte " + k + " of the sum of file " + f, () -> {
                    ParityVolume x = protectedFiles(1);
                    Kit.plant(x, at, packet);
                    x.damage(damaged, 3, 0);
                    return x;
                }, x -> x.repair(), WRONG);
            }
        }
    }

    private static void repairIsWrongByTheSlicesMade() {
        Kit.says("Promise 13",
                "WRONG when a file, with a file packet that counts, would have another sum than that tells");
        byte[] right = Kit.recoverySlice(0, A, B, C);
        for (int i = 0; i < 8; i++) {
            byte[] packet = Kit.recoveryPacket(SET, 0, Kit.with(right, i, right[i] ^ 1 << i));
            State.stays("byte " + i + " of a recovery slice", () -> {
                ParityVolume x = protectedFiles(1);
                Kit.plant(x, RECOVERIES, packet);
                x.damage(1, 3, 0);
                return x;
            }, x -> x.repair(), WRONG);
        }
    }

    private static void repairIsWrongWithNoneDamaged() {
        Kit.says("Promise 13",
                "WRONG when a file, with a file packet that counts, would have another sum than that tells");
        for (int r = 0; r <= 1; r++) {
            int recoveries = r;
            State.stays("none damaged", () -> {
                ParityVolume x = protectedFiles(recoveries);
                Kit.plant(x, FILE_AT[0], Kit.filePacket(SET, 0, Kit.text("another of three slice")));
                Kit.due("all count", x.scan(), 7 + 101 * recoveries);
                Kit.due("none is damaged", x.verify(), 0);
                Kit.write(x, 1, Kit.join(B, Kit.text("?")));
                return x;
            }, x -> x.repair(), WRONG);
        }
        byte[] emptySet = Kit.setOf(Kit.mainBody(0, 0, 0));
        State.stays("a file without bytes", () -> {
            ParityVolume x = new ParityVolume();
            x.protect(0);
            Kit.plant(x, 31 + 2 * 71, Kit.packet(Kit.FILE, emptySet, Kit.join(Kit.bytes(2, 0), Kit.some(16, 1))));
            Kit.due("all count", x.scan(), 7);
            Kit.write(x, 0, B);
            return x;
        }, x -> x.repair(), WRONG);
    }

    private static void repairIsLostBeforeWrong() {
        Kit.says("Promise 13", "LOST when fewer are taken than there are damaged; WRONG when a file");
        State.stays("LOST, though a sum is wrong", () -> {
            ParityVolume x = protectedFiles(1);
            Kit.plant(x, FILE_AT[0], Kit.filePacket(SET, 0, Kit.text("another of three slice")));
            x.damage(2, 0, 0);
            x.damage(2, 8, 0);
            return x;
        }, x -> x.repair(), LOST);
    }

    private static void repairIsNotWrongWithoutFilePacket() {
        Kit.says("Promise 13", "with a file packet that counts");
        byte[] wrongBy = Kit.recoverySlice(0, A, B, C);
        for (int k = 0; k < 8; k++) {
            wrongBy[k] ^= (byte) (k + 1);
        }
        ParityVolume x = protectedFiles(1);
        Kit.plant(x, RECOVERIES, Kit.recoveryPacket(SET, 0, wrongBy));
        x.alter(FILE_AT[1], 0);
        x.damage(1, 9, 0);
        Kit.due("one", x.verify(), 16);
        Kit.due("it is as it is made", x.repair(), 1);
        byte[] made = B.clone();
        for (int k = 0; k < 5; k++) {
            made[8 + k] ^= (byte) (k + 1);
        }
        filesAre("made", x, A, made, C);
        Kit.due("it is damaged still", x.verify(), 16);
    }

    private static void repairIsNotWrongByFilePacketsThatDoNotCount() {
        Kit.says("Promise 13", "with a file packet that counts");
        byte[] other = Kit.some(16, 1);
        byte[][] packets = {
            Kit.packet(Kit.FILE, Kit.bytes(1, 2, 3, 4), Kit.join(Kit.bytes(0, A.length), other)),
            Kit.packet(Kit.FILE, SET, Kit.join(Kit.bytes(0, A.length - 1), other)),
            Kit.packet(Kit.FILE, SET, Kit.join(Kit.bytes(3, A.length), other)),
            Kit.packet(Kit.FILE + 1, SET, Kit.join(Kit.bytes(0, A.length), other)),
        };
        State whole = State.of(() -> protectedFiles(1));
        for (byte[] packet : packets) {
            byte[] volume = whole.volume.clone();
            System.arraycopy(packet, 0, volume, FILE_AT[0], packet.length);
            State.becomes("a file packet that does not count", () -> {
                ParityVolume x = protectedFiles(1);
                Kit.plant(x, FILE_AT[0], packet);
                x.damage(0, 3, 0);
                return x;
            }, x -> x.repair(), 1, whole.withVolume(volume));
        }
        ParityVolume y = protectedFiles(2);
        Kit.plant(y, RECOVERIES, Kit.filePacket(SET, 0, Kit.text("another of three slice")));
        Kit.due("a second file packet for the same file", y.repair(), 0);
    }

    /** What is made for places behind the length is not kept and has no part in the file's sum. */
    private static void repairMakesNoBytesBehindTheLength() {
        Kit.says("Terms", "at its places up to the length that is told");
        byte[] right = Kit.recoverySlice(0, A, B, C);
        byte[] packet = Kit.recoveryPacket(SET, 0, Kit.with(right, 7, right[7] ^ 1));
        ParityVolume x = protectedFiles(1);
        Kit.plant(x, RECOVERIES, packet);
        x.damage(1, 8, 0);
        Kit.due("repair", x.repair(), 1);
        filesAre("repaired", x, A, B, C);
        Kit.due("verify", x.verify(), 0);
    }

    private static void leastExponentsFirst() {
        Kit.says("Terms", "recovery packets that count are gone through by their exponents, from the least on");
        ParityVolume x = protectedFiles(4);
        Kit.plant(x, RECOVERIES, Kit.recoveryPacket(SET, 9, Kit.text("nonsense")));
        Kit.plant(x, RECOVERIES + 35, Kit.recoveryPacket(SET, 3, Kit.recoverySlice(3, A, B, C)));
        Kit.plant(x, RECOVERIES + 70, Kit.recoveryPacket(SET, 200, Kit.recoverySlice(200, A, B, C)));
        Kit.plant(x, RECOVERIES + 105, Kit.recoveryPacket(SET, 3, Kit.text("nonsense")));
        Kit.due("three count", x.scan(), 310);
        x.damage(2, 0, 0);
        Kit.due("the least is 3", x.repair(), 1);
        Kit.due("repaired", x.verify(), 0);
        x.damage(2, 0, 0);
        x.damage(0, 0, 0);
        Kit.due("9 is the next", x.repair(), WRONG);
        x.alter(RECOVERIES + 5, 1);
        Kit.due("9 has gone", x.scan(), 209);
        Kit.due("200 is the next", x.repair(), 2);
        Kit.due("repaired", x.verify(), 0);
        x.alter(RECOVERIES + 36, 1);
        x.damage(1, 0, 0);
        Kit.due("3 has gone, so the later one counts", x.repair(), WRONG);
        x.alter(RECOVERIES + 106, 1);
        Kit.due("200 alone", x.repair(), 1);
        Kit.due("repaired", x.verify(), 0);
        x.damage(1, 0, 0);
        x.damage(1, 12, 0);
        Kit.due("one is not enough", x.repair(), LOST);
    }

    private static void untilEnoughAreTaken() {
        Kit.says("Terms", "until d are taken");
        for (int d = 0; d <= 5; d++) {
            ParityVolume x = protectedFiles(6);
            for (int e = d; e < 6; e++) {
                Kit.plant(x, RECOVERIES + 35 * e, Kit.recoveryPacket(SET, e, Kit.text("nonsense")));
            }
            for (int k = 0; k < d; k++) {
                damageSlice(x, 2 * k % 9);
            }
            Kit.due("those behind have no part", x.repair(), d);
            Kit.due("repaired", x.verify(), 0);
            damageSlice(x, 1);
            for (int k = 0; k < d; k++) {
                damageSlice(x, 2 * k % 9);
            }
            Kit.due("with one more damaged the next is taken", x.repair(), WRONG);
        }
    }

    /** The powers 0, 44 and 135 of the bases of slices 0, 1 and 3 depend on one another. */
    private static void dependentPowersAreLeftOut() {
        Kit.says("Terms",
                "each is TAKEN unless its powers of the damaged slices' bases are a sum of multiples of those of the"
                + " ones that were taken");
        byte[] file = Kit.text("four slices, just as many bytes!");
        byte[] set = Kit.setOf(Kit.mainBody(32, 0, 0));
        ParityVolume x = Kit.withFiles(file);
        int end = x.protect(0);
        x.protect(4);
        Kit.plant(x, end, Kit.recoveryPacket(set, 135, Kit.text("nonsense")));
        Kit.plant(x, end + 35, Kit.recoveryPacket(set, 44, Kit.recoverySlice(44, file)));
        Kit.plant(x, end + 70, Kit.recoveryPacket(set, 0, Kit.recoverySlice(0, file)));
        Kit.plant(x, end + 105, Kit.recoveryPacket(set, 136, Kit.recoverySlice(136, file)));
        Kit.due("four count", x.scan(), 411);
        x.damage(0, 0, 0);
        x.damage(0, 8, 0);
        x.damage(0, 24, 0);
        Kit.due("slices 0, 1, 3", x.verify(), 11);
        Kit.due("135 is left out", x.repair(), 3);
        Kit.due("repaired", Kit.content(x, 0), file);
        x.damage(0, 0, 0);
        x.damage(0, 8, 0);
        x.damage(0, 16, 0);
        Kit.due("with slices 0, 1, 2 it is taken", x.repair(), WRONG);
        x.damage(0, 16, file[16]);
        x.damage(0, 24, 0);
        x.alter(end + 105, 0);
        Kit.due("three count", x.scan(), 310);
        Kit.due("three that are worth two", x.repair(), LOST);
        Kit.due("nothing changed", x.verify(), 11);
        x.damage(0, 24, file[24]);
        Kit.due("two of two", x.repair(), 2);
        Kit.due("repaired", Kit.content(x, 0), file);
    }

    /** The same three powers, after a repair that was LOST with more slices. */
    private static void earlierRepairsLeaveNothing() {
        Kit.says("Terms", "are a sum of multiples of those of the ones that were taken; until d are taken");
        byte[] file = Kit.some(40, 4);
        byte[] set = Kit.setOf(Kit.mainBody(40, 0, 0));
        ParityVolume x = Kit.withFiles(file);
        int end = x.protect(0);
        x.protect(3);
        for (int k = 0; k < 5; k++) {
            x.damage(0, 8 * k, file[8 * k] & 255 ^ 1);
        }
        Kit.due("three of five", x.repair(), LOST);
        Kit.plant(x, end + 35, Kit.recoveryPacket(set, 44, Kit.recoverySlice(44, file)));
        Kit.plant(x, end + 70, Kit.recoveryPacket(set, 135, Kit.recoverySlice(135, file)));
        Kit.due("three count", x.scan(), 310);
        x.damage(0, 16, file[16] & 255);
        x.damage(0, 32, file[32] & 255);
        Kit.due("slices 0, 1, 3", x.verify(), 11);
        Kit.due("three that are worth two", x.repair(), LOST);
        x.damage(0, 16, file[16] & 255 ^ 1);
        x.damage(0, 24, file[24] & 255);
        Kit.due("slices 0, 1, 2", x.verify(), 7);
        Kit.due("three that are worth three", x.repair(), 3);
        Kit.due("repaired", Kit.content(x, 0), file);
    }

    private static void twelveOutOfNothing() {
        Kit.says("Promise 13", "the slices that were damaged are as they are made; how many were");
        byte[] set = Kit.setOf(Kit.mainBody(40, 40, 16));
        byte[] all = Kit.mainPacket(40, 40, 16);
        int[] exponents = {255, 0, 3, 77, 5, 100, 200, 64, 31, 32, 1, 2};
        for (int e : exponents) {
            all = Kit.join(all, Kit.recoveryPacket(set, e, Kit.recoverySlice(e, TWELVE)));
        }
        for (int f = 0; f < 3; f++) {
            ParityVolume x = new ParityVolume();
            x.protect(6);
            Kit.plantAll(x, all);
            Kit.due("scan", x.scan(), 1213);
            Kit.due("verify", x.verify(), 4095);
            Kit.due("repair", x.repair(), 12);
            Kit.due("a file out of nothing", Kit.content(x, f), TWELVE[f]);
        }
        ParityVolume y = new ParityVolume();
        y.protect(6);
        Kit.plantAll(y, Arrays.copyOf(all, all.length - 35));
        Kit.due("scan of one less", y.scan(), 1112);
        Kit.due("eleven of twelve", y.repair(), LOST);
        Kit.due("no byte", y.length(0) + y.length(1) + y.length(2), 0);
    }

    private static void filesThatAreNotProtectedStay() {
        Kit.says("Promise 13", "the protected files have the lengths that are told");
        byte[] changed = Kit.with(B, 0, 1);
        byte[] shorter = Arrays.copyOf(C, C.length - 3);
        for (int n = 1; n <= 2; n++) {
            byte[][] told = {A, B};
            int[] lengths = Arrays.copyOf(new int[] {A.length, B.length}, n);
            byte[] set = Kit.setOf(Kit.mainBody(lengths));
            byte[] volume = Kit.join(Kit.checksPacket(set, 0, A), Kit.mainPacket(lengths), Kit.filePacket(set, 0, A),
                    Kit.recoveryPacket(set, 1, Kit.recoverySlice(1, Arrays.copyOf(told, n))));
            State before = new State(Kit.bytes(), volume, Kit.with(A, 8, 0), changed, shorter);
            State.becomes("main of " + n + " files", () -> {
                ParityVolume x = protectedFiles(6);
                Kit.plantAll(x, volume);
                x.damage(0, 8, 0);
                x.damage(1, 0, 1);
                x.shorten(2, 3);
                Kit.due("scan", x.scan(), 104);
                return x;
            }, x -> x.repair(), n == 1 ? 1 : LOST, n == 1 ? before.withFile(0, A) : before);
        }
        ParityVolume x = protectedFiles(6);
        byte[] set = Kit.setOf(Kit.mainBody(A.length));
        Kit.plantAll(x, Kit.checksPacket(set, 0, A), Kit.mainPacket(A.length), Kit.checksPacket(set, 1, B));
        x.damage(0, 8, 0);
        x.damage(1, 8, 0);
        Kit.due("slices of file 0 alone", x.verify(), 2);
    }

    private static void emptyFiles() {
        Kit.says("Promise 13", "0, too: the lengths are as told all the same");
        ParityVolume x = new ParityVolume();
        x.protect(6);
        Kit.due("none", x.verify(), 0);
        Kit.due("none", x.repair(), 0);
        Kit.write(x, 2, C);
        Kit.due("still none", x.verify(), 0);
        Kit.due("an empty file is so again", x.repair(), 0);
        Kit.due("empty", x.length(2), 0);
        x.cut(31, x.volume() - 31);
        Kit.due("main alone", x.scan(), 1);
        Kit.write(x, 0, A);
        Kit.due("no slice, so none is damaged", x.verify(), 0);
        Kit.due("none", x.repair(), 0);
        Kit.due("empty", x.length(0), 0);
    }
}
