import java.util.Arrays;
import java.util.function.Supplier;

/** Promises 6 to 10, protecting and damage to the volume: a method for each sentence that names a boundary. */
public final class VolumeTest {
    private static final int BAD = ParityVolume.BAD;
    private static final int MIN = Integer.MIN_VALUE;
    private static final int MAX = Integer.MAX_VALUE;
    private static final State BUSY = State.of(State::busy);
    private static final int SIZE = BUSY.volume.length;

    /** Lengths of files with 12 slices, and with 13 or more. */
    private static final int[][] TWELVE = {{40, 40, 16}, {40, 16, 40}, {16, 40, 40}, {32, 32, 32}, {33, 25, 17},
        {25, 33, 9}, {9, 40, 40}};
    private static final int[][] THIRTEEN = {{40, 40, 17}, {40, 17, 40}, {17, 40, 40}, {33, 32, 32}, {32, 33, 32},
        {32, 32, 33}, {33, 25, 25}, {40, 40, 24}, {40, 40, 25}, {40, 40, 40}};

    public static void main(String[] args) {
        protectWritesEachByte();
        protectWritesEmptyFilesToo();
        protectRoundsSlicesUp();
        protectTakesUpToSix();
        protectRefusesOtherNumbers();
        protectTakesTwelveSlices();
        protectIsFullWithThirteen();
        protectAnswersBadBeforeFull();
        protectWritesAnew();

        volumeTellsItsSize();
        byteAtTellsEachByte();
        byteAtRefusesOtherPlaces();

        alterSetsOneByte();
        alterRefusesOtherPlaces();
        alterRefusesOtherValues();

        cutTakesBytesOut();
        cutRefusesLessThanOne();
        cutRefusesMoreThanThereAre();
        cutDoesNotWrap();
        cutUntilNoneIsLeft();
        Kit.finish();
    }

    private static byte[][] files(int... lengths) {
        byte[][] result = new byte[3][];
        for (int f = 0; f < 3; f++) {
            result[f] = Kit.some(lengths[f], 5 + f);
        }
        return result;
    }

    /** Protecting such files writes what it must and changes nothing else. */
    private static void written(int r, byte[]... files) {
        byte[] want = Kit.volumeOf(r, files);
        String what = "protect " + r + " of " + files[0].length + ", " + files[1].length + ", " + files[2].length;
        Supplier<ParityVolume> scene = () -> {
            ParityVolume x = Kit.withFiles(files);
            x.type(0x0102, 2);
            return x;
        };
        State.becomes(what, scene, x -> x.protect(r), want.length, new State(Kit.bytes(1, 2), want, files));
    }

    private static void protectWritesEachByte() {
        Kit.says("Promise 6", "Protects the files with r recovery packets: how many bytes the volume has.");
        int[][] all = {{1, 0, 0}, {0, 8, 0}, {0, 0, 9}, {7, 8, 9}, {15, 16, 17}, {31, 32, 25}, {40, 40, 16}};
        for (int[] lengths : all) {
            for (int r = 0; r <= 6; r++) {
                written(r, files(lengths));
            }
        }
        written(6, new byte[8], Kit.text("123456789"), Kit.text("x"));
        byte[] full = new byte[40];
        Arrays.fill(full, (byte) 255);
        written(6, full, full, Arrays.copyOf(full, 16));
    }

    private static void protectWritesEmptyFilesToo() {
        Kit.says("Terms", "a main packet of the files 0, 1, 2 (those without bytes, too)");
        for (int r = 0; r <= 6; r++) {
            written(r, files(0, 0, 0));
        }
        written(1, files(0, 0, 40));
        written(1, files(40, 0, 40));
        written(1, files(0, 40, 0));
    }

    private static void protectRoundsSlicesUp() {
        Kit.says("Terms", "A file of n bytes has n / 8 slices, rounded up, its bytes and then 0s.");
        for (int n = 0; n <= 40; n++) {
            written(2, files(n, 40 - n, 3));
            ParityVolume x = Kit.withFiles(files(n, 0, 0));
            Kit.due("protect a file of " + n, x.protect(0), 244 + 20 * ((n + 7) / 8));
        }
    }

    private static void protectTakesUpToSix() {
        Kit.says("Promise 6", "BAD when r is not 0 .. 6");
        for (int r = 0; r <= 6; r++) {
            int k = r;
            byte[] want = Kit.volumeOf(r, BUSY.files);
            State.becomes("protect " + r, State::busy, x -> x.protect(k), want.length, BUSY.withVolume(want));
            Kit.due("protect no bytes", new ParityVolume().protect(r), 244 + 35 * r);
        }
    }

    private static void protectRefusesOtherNumbers() {
        Kit.says("Promise 6", "BAD when r is not 0 .. 6");
        for (int r : new int[] {-1, -2, -6, 7, 8, 12, 256, 262}) {
            State.stays("protect " + r, State::busy, x -> x.protect(r), BAD);
            State.stays("protect " + r, ParityVolume::new, x -> x.protect(r), BAD);
        }
        for (int r : Kit.FAR) {
            State.stays("protect " + r, State::busy, x -> x.protect(r), BAD);
        }
    }

    private static void protectTakesTwelveSlices() {
        Kit.says("Terms", "There may be 12 slices at most.");
        for (int[] lengths : TWELVE) {
            written(0, files(lengths));
            written(6, files(lengths));
        }
        Kit.due("the longest volume", Kit.withFiles(files(40, 40, 16)).protect(6), 694);
    }

    private static void protectIsFullWithThirteen() {
        Kit.says("Promise 6", "FULL when there would be more than 12 slices (the volume stays)");
        for (int[] lengths : THIRTEEN) {
            for (int r = 0; r <= 6; r += 3) {
                int k = r;
                String what = "protect " + r + " of " + Arrays.toString(lengths);
                State.stays(what, () -> {
                    ParityVolume x = State.busy();
                    x.file(0);
                    for (int f = 0; f < 3; f++) {
                        Kit.write(x, f, files(lengths)[f]);
                    }
                    return x;
                }, x -> x.protect(k), ParityVolume.FULL);
                State.stays(what, () -> Kit.withFiles(files(lengths)), x -> x.protect(k), ParityVolume.FULL);
            }
        }
    }

    private static void protectAnswersBadBeforeFull() {
        Kit.says("Promise 6", "BAD when r is not 0 .. 6; FULL when there would be more than 12 slices");
        for (int r : new int[] {-1, 7, MIN, MAX}) {
            State.stays("protect " + r, () -> Kit.withFiles(files(40, 40, 40)), x -> x.protect(r), BAD);
        }
    }

    private static void protectWritesAnew() {
        Kit.says("Terms", "PROTECTING writes the volume anew");
        byte[][] files = files(40, 40, 16);
        byte[] want = Kit.volumeOf(0, files);
        Supplier<ParityVolume> longer = () -> {
            ParityVolume x = Kit.withFiles(files);
            x.protect(6);
            return x;
        };
        Supplier<ParityVolume> damaged = () -> {
            ParityVolume x = longer.get();
            x.alter(0, 0);
            x.cut(3, 100);
            return x;
        };
        Supplier<ParityVolume> gone = () -> {
            ParityVolume x = longer.get();
            x.cut(0, 694);
            return x;
        };
        State due = new State(Kit.bytes(), want, files);
        State.becomes("after a longer one", longer, x -> x.protect(0), want.length, due);
        State.becomes("after a damaged one", damaged, x -> x.protect(0), want.length, due);
        State.becomes("after none", gone, x -> x.protect(0), want.length, due);
        State.becomes("a longer one again", damaged, x -> x.protect(6), 694, due.withVolume(Kit.volumeOf(6, files)));
    }

    private static void volumeTellsItsSize() {
        Kit.says("Promise 7", "How many bytes the volume has.");
        State.stays("volume of none", ParityVolume::new, x -> x.volume(), 0);
        State.stays("volume", State::busy, x -> x.volume(), SIZE);
        ParityVolume x = Kit.withFiles(files(40, 40, 16));
        Kit.due("protect", x.protect(6), 694);
        Kit.due("the most", x.volume(), 694);
        Kit.due("alter", x.alter(693, 1), true);
        Kit.due("alter leaves it", x.volume(), 694);
        Kit.due("cut the last", x.cut(693, 1), true);
        Kit.due("one less", x.volume(), 693);
        Kit.due("cut all but one", x.cut(1, 692), true);
        Kit.due("one", x.volume(), 1);
        Kit.due("cut this", x.cut(0, 1), true);
        Kit.due("none", x.volume(), 0);
    }

    private static void byteAtTellsEachByte() {
        Kit.says("Promise 8", "Byte i of the volume");
        ParityVolume x = new ParityVolume();
        x.protect(0);
        for (int v = 0; v < 244; v++) {
            Kit.due("alter", x.alter(v, 255 - v), true);
            Kit.due("byteAt " + v, x.byteAt(v), 255 - v);
        }
        Kit.due("alter", x.alter(243, 0), true);
        Kit.due("a byte 0", x.byteAt(243), 0);
        Kit.due("a byte 255 is not BAD", x.byteAt(0), 255);
        State.stays("byteAt the first", State::busy, y -> y.byteAt(0), 80);
        State.stays("byteAt the last", State::busy, y -> y.byteAt(SIZE - 1), BUSY.volume[SIZE - 1] & 255);
    }

    private static void byteAtRefusesOtherPlaces() {
        Kit.says("Promise 8", "BAD when there is none");
        for (int i : new int[] {-1, -2, SIZE, SIZE + 1, 693, 694, 695}) {
            State.stays("byteAt " + i, State::busy, x -> x.byteAt(i), BAD);
        }
        for (int i : Kit.FAR) {
            State.stays("byteAt " + i, State::busy, x -> x.byteAt(i), BAD);
        }
        State.stays("byteAt 0 of none", ParityVolume::new, x -> x.byteAt(0), BAD);
        ParityVolume x = State.busy();
        x.cut(10, 1);
        Kit.due("the last behind a cut", x.byteAt(SIZE - 2), BUSY.volume[SIZE - 1] & 255);
        Kit.due("behind the last behind a cut", x.byteAt(SIZE - 1), BAD);
        ParityVolume y = Kit.withFiles(files(40, 40, 16));
        y.protect(6);
        Kit.due("the last of the longest", y.byteAt(693), Kit.volumeOf(6, files(40, 40, 16))[693] & 255);
        Kit.due("behind the longest", y.byteAt(694), BAD);
    }

    private static void alterSetsOneByte() {
        Kit.says("Promise 9", "Byte i of the volume becomes v: true");
        for (int i : new int[] {0, 1, SIZE / 2, SIZE - 2, SIZE - 1}) {
            for (int v : new int[] {0, 1, 127, 128, 254, 255, BUSY.volume[i] & 255}) {
                State.becomes("alter " + i + " to " + v, State::busy, x -> Kit.bit(x.alter(i, v)), 1,
                        BUSY.withVolume(Kit.with(BUSY.volume, i, v)));
            }
        }
    }

    private static void alterRefusesOtherPlaces() {
        Kit.says("Promise 9", "false when there is none");
        for (int i : new int[] {-1, -2, SIZE, SIZE + 1, 693, 694, 695}) {
            State.stays("alter at " + i, State::busy, x -> Kit.bit(x.alter(i, 7)), 0);
        }
        for (int i : Kit.FAR) {
            State.stays("alter at " + i, State::busy, x -> Kit.bit(x.alter(i, 7)), 0);
        }
        State.stays("alter of none", ParityVolume::new, x -> Kit.bit(x.alter(0, 7)), 0);
        ParityVolume x = State.busy();
        x.cut(0, 1);
        Kit.due("the last behind a cut", x.alter(SIZE - 2, 7), true);
        Kit.due("behind the last behind a cut", x.alter(SIZE - 1, 7), false);
    }

    private static void alterRefusesOtherValues() {
        Kit.says("Promise 9", "or v is not 0 .. 255");
        for (int v : new int[] {-1, -128, 256, 257, 511}) {
            State.stays("alter to " + v, State::busy, x -> Kit.bit(x.alter(1, v)), 0);
        }
        for (int v : Kit.FAR) {
            State.stays("alter to " + v, State::busy, x -> Kit.bit(x.alter(0, v)), 0);
            State.stays("alter at it to " + v, State::busy, x -> Kit.bit(x.alter(v, v)), 0);
        }
    }

    private static void cutTakesBytesOut() {
        Kit.says("Promise 10", "n bytes of the volume from place i on go, those behind come closer: true");
        int[][] all = {{0, 1}, {0, 2}, {1, 1}, {100, 31}, {SIZE - 1, 1}, {SIZE - 2, 1}, {0, SIZE - 1}, {1, SIZE - 2}};
        for (int[] c : all) {
            State.becomes("cut " + Arrays.toString(c), State::busy, x -> Kit.bit(x.cut(c[0], c[1])), 1,
                    BUSY.withVolume(Kit.without(BUSY.volume, c[0], c[1])));
        }
    }

    private static void cutRefusesLessThanOne() {
        Kit.says("Promise 10", "false when n is less than 1");
        for (int i : new int[] {0, 1, SIZE - 1, SIZE}) {
            for (int n : new int[] {0, -1, -2, -SIZE, MIN, MIN + 1}) {
                State.stays("cut " + i + ", " + n, State::busy, x -> Kit.bit(x.cut(i, n)), 0);
            }
        }
        State.stays("cut none of none", ParityVolume::new, x -> Kit.bit(x.cut(0, 0)), 0);
    }

    private static void cutRefusesMoreThanThereAre() {
        Kit.says("Promise 10", "or there are not so many");
        for (int i : new int[] {0, 1, SIZE / 2, SIZE - 2, SIZE - 1}) {
            State.becomes("cut all from " + i, State::busy, x -> Kit.bit(x.cut(i, SIZE - i)), 1,
                    BUSY.withVolume(Arrays.copyOf(BUSY.volume, i)));
            State.stays("cut one too many from " + i, State::busy, x -> Kit.bit(x.cut(i, SIZE - i + 1)), 0);
            State.stays("cut two too many from " + i, State::busy, x -> Kit.bit(x.cut(i, SIZE - i + 2)), 0);
        }
        int[][] wrong = {{SIZE, 1}, {SIZE + 1, 1}, {694, 1}, {-1, 1}, {-1, 2}, {-1, SIZE}, {-1, SIZE + 1}, {-5, 10}};
        for (int[] w : wrong) {
            State.stays("cut " + Arrays.toString(w), State::busy, x -> Kit.bit(x.cut(w[0], w[1])), 0);
        }
        State.stays("cut 1 of none", ParityVolume::new, x -> Kit.bit(x.cut(0, 1)), 0);
    }

    private static void cutDoesNotWrap() {
        Kit.says("Promise 10", "or there are not so many");
        int[][] wrong = {{0, MAX}, {1, MAX}, {2, MAX}, {SIZE - 1, MAX}, {SIZE, MAX}, {MAX, 1}, {MAX, 2}, {MAX, MAX},
            {MIN, 1}, {MIN, MAX}, {-1, MAX}, {-MAX, MAX}, {MIN, MIN}, {MAX, MIN}, {MAX - 5, 10}, {MIN + 5, MAX}};
        for (int[] w : wrong) {
            State.stays("cut " + Arrays.toString(w), State::busy, x -> Kit.bit(x.cut(w[0], w[1])), 0);
        }
    }

    private static void cutUntilNoneIsLeft() {
        Kit.says("Promise 10", "n bytes of the volume from place i on go");
        ParityVolume x = new ParityVolume();
        x.protect(0);
        for (int left = 244; left > 0; left--) {
            Kit.due("cut one", x.cut(left / 2, 1), true);
        }
        Kit.due("none is left", x.volume(), 0);
        Kit.due("cut one of none", x.cut(0, 1), false);
        Kit.due("protect after it", x.protect(6), 454);
        Kit.due("scan after it", x.scan(), 613);
    }
}
