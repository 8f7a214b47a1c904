import java.util.Arrays;
import java.util.function.Supplier;

/** Promises 1 to 5, 14 and 15, the typed bytes and the files: a method for each sentence that names a boundary. */
public final class RowsTest {
    private static final int BAD = ParityVolume.BAD;
    private static final byte[] NONE = {};
    private static final State BUSY = State.of(State::busy);

    public static void main(String[] args) {
        newObjectIsEmpty();
        newObjectRefuses();
        objectsAreApart();

        typeTakesTheLowestBytes();
        typeTellsHowManyThereAre();
        typeRefusesOtherNumbers();
        typeHasRoomForForty();
        typeAnswersBadBeforeFull();
        typeGoesOnAfterFull();

        fileBecomesWhatIsTyped();
        fileIsEmptyWithoutTyped();
        nothingIsTypedAfterFile();
        fileRefusesOtherFiles();

        damageSetsOneByte();
        damageRefusesOtherPlaces();
        damageRefusesOtherFiles();
        damageRefusesOtherValues();

        shortenDropsTheLast();
        shortenRefusesOtherNumbers();
        shortenOfAnEmptyFile();
        shortenRefusesOtherFiles();
        shortenedBytesDoNotComeBack();

        lengthOfEachFile();
        lengthRefusesOtherFiles();

        atTellsEachByte();
        atRefusesOtherPlaces();
        atRefusesOtherFiles();
        Kit.finish();
    }

    /** A busy object whose typed bytes are so many. */
    private static Supplier<ParityVolume> typed(int n) {
        byte[] data = Kit.some(n, 4);
        return () -> {
            ParityVolume x = State.busy();
            x.file(0);
            for (int i = 0; i < n; i++) {
                Kit.due("type", x.type(data[i], 1), i + 1);
            }
            return x;
        };
    }

    private static byte[] lowest(long bits, int n) {
        byte[] all = java.nio.ByteBuffer.allocate(8).putLong(bits).array();
        return Arrays.copyOfRange(all, 8 - n, 8);
    }

    private static void newObjectIsEmpty() {
        Kit.says("Promise 1", "All rows are empty.");
        State.of(ParityVolume::new).isDue("new", new State(NONE, NONE, NONE, NONE, NONE));
        ParityVolume x = new ParityVolume();
        for (int f = 0; f < 3; f++) {
            Kit.due("length " + f, x.length(f), 0);
            Kit.due("at " + f, x.at(f, 0), BAD);
        }
        Kit.due("volume", x.volume(), 0);
        Kit.due("byteAt", x.byteAt(0), BAD);
        Kit.due("the first typed byte", x.type(7, 1), 1);
    }

    private static void newObjectRefuses() {
        Kit.says("Promise 1", "All rows are empty.");
        for (int f = 0; f < 3; f++) {
            int file = f;
            State.stays("damage of none", ParityVolume::new, x -> Kit.bit(x.damage(file, 0, 0)), 0);
            State.stays("shorten by 1 of none", ParityVolume::new, x -> Kit.bit(x.shorten(file, 1)), 0);
            State.stays("shorten by 0 of none", ParityVolume::new, x -> Kit.bit(x.shorten(file, 0)), 1);
            State.stays("file without typed bytes", ParityVolume::new, x -> x.file(file), 0);
        }
        State.stays("alter of none", ParityVolume::new, x -> Kit.bit(x.alter(0, 0)), 0);
        State.stays("cut of none", ParityVolume::new, x -> Kit.bit(x.cut(0, 1)), 0);
        State.stays("scan of none", ParityVolume::new, x -> x.scan(), ParityVolume.NOTHING);
        State.stays("verify of none", ParityVolume::new, x -> x.verify(), ParityVolume.NOTHING);
        State.stays("repair of none", ParityVolume::new, x -> x.repair(), ParityVolume.NOTHING);
    }

    private static void objectsAreApart() {
        Kit.says("Promise 1", "All rows are empty.");
        State.of(() -> {
            ParityVolume y = new ParityVolume();
            State.busy().repair();
            return y;
        }).isDue("an object beside another", new State(NONE, NONE, NONE, NONE, NONE));
    }

    private static void typeTakesTheLowestBytes() {
        Kit.says("Promise 2", "The lowest n bytes of bits, the highest of them first, come behind the typed ones");
        long[] all = {0x8182838485868788L, 0x0102030405060708L, 0, -1, Long.MIN_VALUE, Long.MAX_VALUE,
                0xFF00FF00FF00FF00L};
        for (long bits : all) {
            for (int n = 1; n <= 8; n++) {
                int k = n;
                State.becomes("type " + bits + ", " + n, State::busy, x -> x.type(bits, k), 5 + n,
                        BUSY.withTyped(Kit.join(BUSY.typed, lowest(bits, n))));
            }
        }
    }

    private static void typeTellsHowManyThereAre() {
        Kit.says("Promise 2", "how many there are");
        for (int n = 1; n <= 8; n++) {
            ParityVolume x = new ParityVolume();
            for (int k = 1; k * n <= 40; k++) {
                Kit.due("type for the " + k + "th time", x.type(k, n), k * n);
            }
            Kit.due("type once more", x.type(0, n), ParityVolume.FULL);
        }
    }

    private static void typeRefusesOtherNumbers() {
        Kit.says("Promise 2", "BAD when n is not 1 .. 8");
        for (int n : new int[] {0, -1, -2, -8, 9, 10, 16, 40, 41, 255, 256, 257, 264}) {
            State.stays("type n " + n, State::busy, x -> x.type(-1L, n), BAD);
        }
        for (int n : Kit.FAR) {
            State.stays("type n " + n, State::busy, x -> x.type(5L, n), BAD);
        }
        State.stays("type n 0 of none", ParityVolume::new, x -> x.type(-1L, 0), BAD);
        State.stays("type n 9 of none", ParityVolume::new, x -> x.type(-1L, 9), BAD);
    }

    private static void typeHasRoomForForty() {
        Kit.says("Promise 2", "FULL when there would be more than 40");
        for (int n = 1; n <= 8; n++) {
            int k = n;
            long bits = 0x8182838485868788L;
            State before = State.of(typed(40 - n));
            State.becomes("type " + n + " behind " + (40 - n), typed(40 - n), x -> x.type(bits, k), 40,
                    before.withTyped(Kit.join(before.typed, lowest(bits, n))));
            for (int there = 41 - n; there <= 40; there++) {
                State.stays("type " + n + " behind " + there, typed(there), x -> x.type(bits, k), ParityVolume.FULL);
            }
        }
    }

    private static void typeAnswersBadBeforeFull() {
        Kit.says("Promise 2", "BAD when n is not 1 .. 8; FULL when there would be more than 40.");
        for (int n : new int[] {0, 9, -1, 41, Integer.MIN_VALUE, Integer.MAX_VALUE}) {
            State.stays("type " + n + " behind 40", typed(40), x -> x.type(1, n), BAD);
        }
        State.stays("type 9 behind 32", typed(32), x -> x.type(1, 9), BAD);
    }

    private static void typeGoesOnAfterFull() {
        Kit.says("Promise 2", "FULL when there would be more than 40");
        ParityVolume x = typed(39).get();
        Kit.due("two", x.type(6, 2), ParityVolume.FULL);
        Kit.due("eight", x.type(6, 8), ParityVolume.FULL);
        Kit.due("one", x.type(77, 1), 40);
        Kit.due("one more", x.type(6, 1), ParityVolume.FULL);
        Kit.due("file", x.file(2), 40);
        Kit.due("the last", x.at(2, 39), 77);
        Kit.due("typing begins anew", x.type(1, 8), 8);
    }

    private static void fileBecomesWhatIsTyped() {
        Kit.says("Promise 3",
                "File f becomes the typed bytes (without any it is empty), nothing is typed then: how many.");
        for (int f = 0; f < 3; f++) {
            for (int n : new int[] {0, 1, 7, 8, 9, 39, 40}) {
                int file = f;
                State before = State.of(typed(n));
                State.becomes("file " + f + " of " + n, typed(n), x -> x.file(file), n,
                        before.withTyped(NONE).withFile(f, before.typed));
            }
        }
    }

    private static void fileIsEmptyWithoutTyped() {
        Kit.says("Promise 3", "without any it is empty");
        ParityVolume x = Kit.withFiles(Kit.some(40, 1), Kit.some(40, 2), Kit.some(40, 3));
        for (int f = 0; f < 3; f++) {
            Kit.due("file", x.file(f), 0);
            Kit.due("length", x.length(f), 0);
            Kit.due("at", x.at(f, 0), BAD);
            Kit.due("of the next", x.length(f + 1), f < 2 ? 40 : BAD);
        }
    }

    private static void nothingIsTypedAfterFile() {
        Kit.says("Promise 3", "nothing is typed then");
        ParityVolume x = typed(40).get();
        Kit.due("file", x.file(0), 40);
        Kit.due("the next", x.file(1), 0);
        Kit.due("the first stays", x.length(0), 40);
        Kit.due("type", x.type(1, 1), 1);
        Kit.due("a file of what came behind", x.file(0), 1);
    }

    private static void fileRefusesOtherFiles() {
        Kit.says("Promise 3", "BAD when there is no such file");
        for (int f : new int[] {-1, 3, 4, -2}) {
            State.stays("file " + f, State::busy, x -> x.file(f), BAD);
            State.stays("file " + f + " of none", typed(0), x -> x.file(f), BAD);
            State.stays("file " + f + " of 40", typed(40), x -> x.file(f), BAD);
        }
        for (int f : Kit.FAR) {
            State.stays("file " + f, State::busy, x -> x.file(f), BAD);
        }
    }

    private static void damageSetsOneByte() {
        Kit.says("Promise 4", "Byte i of a file becomes v: true");
        int[][] places = {{0, 0}, {0, 19}, {0, 20}, {2, 0}, {2, 1}, {2, 38}, {2, 39}};
        for (int[] p : places) {
            for (int v : new int[] {0, 1, 127, 128, 254, 255, BUSY.files[p[0]][p[1]] & 255}) {
                State.becomes("damage " + Arrays.toString(p) + " to " + v, State::busy,
                        x -> Kit.bit(x.damage(p[0], p[1], v)), 1,
                        BUSY.withFile(p[0], Kit.with(BUSY.files[p[0]], p[1], v)));
            }
        }
        ParityVolume x = Kit.withFiles(NONE, Kit.bytes(9));
        Kit.due("file 1 of one byte", x.damage(1, 0, 10), true);
        Kit.due("its byte", x.at(1, 0), 10);
    }

    private static void damageRefusesOtherPlaces() {
        Kit.says("Promise 4", "false when there is none such");
        int[][] places = {{0, -1}, {0, 21}, {0, 22}, {0, 39}, {0, 40}, {1, 0}, {1, -1}, {1, 1}, {2, -1}, {2, 40},
            {2, 41}};
        for (int[] p : places) {
            State.stays("damage " + Arrays.toString(p), State::busy, x -> Kit.bit(x.damage(p[0], p[1], 7)), 0);
        }
        for (int f = 0; f < 3; f++) {
            for (int i : Kit.FAR) {
                int file = f;
                State.stays("damage at " + i, State::busy, x -> Kit.bit(x.damage(file, i, 7)), 0);
            }
        }
    }

    private static void damageRefusesOtherFiles() {
        Kit.says("Promise 4", "false when there is none such");
        for (int f : new int[] {-1, 3, 4}) {
            State.stays("damage of " + f, State::busy, x -> Kit.bit(x.damage(f, 0, 7)), 0);
        }
        for (int f : Kit.FAR) {
            State.stays("damage of " + f, State::busy, x -> Kit.bit(x.damage(f, 0, 7)), 0);
            State.stays("damage of " + f, State::busy, x -> Kit.bit(x.damage(f, f, f)), 0);
        }
    }

    private static void damageRefusesOtherValues() {
        Kit.says("Promise 4", "or v is not 0 .. 255");
        for (int v : new int[] {-1, -128, 256, 257, 511, 512}) {
            State.stays("damage to " + v, State::busy, x -> Kit.bit(x.damage(2, 3, v)), 0);
        }
        for (int v : Kit.FAR) {
            State.stays("damage to " + v, State::busy, x -> Kit.bit(x.damage(0, 0, v)), 0);
        }
    }

    private static void shortenDropsTheLast() {
        Kit.says("Promise 5", "The last n bytes of a file go: true");
        for (int n : new int[] {0, 1, 2, 20, 21}) {
            State.becomes("shorten 0 by " + n, State::busy, x -> Kit.bit(x.shorten(0, n)), 1, BUSY.shortened(0, n));
        }
        for (int n : new int[] {0, 1, 8, 39, 40}) {
            State.becomes("shorten 2 by " + n, State::busy, x -> Kit.bit(x.shorten(2, n)), 1, BUSY.shortened(2, n));
        }
        ParityVolume x = Kit.withFiles(NONE, Kit.bytes(1, 2, 3));
        Kit.due("shorten 1", x.shorten(1, 2), true);
        Kit.due("what is left", Kit.content(x, 1), Kit.bytes(1));
    }

    private static void shortenRefusesOtherNumbers() {
        Kit.says("Promise 5", "or n is not from 0 to as many as it has");
        int[][] wrong = {{0, -1}, {0, -21}, {0, 22}, {0, 40}, {2, -1}, {2, -40}, {2, 41}, {2, 42}};
        for (int[] w : wrong) {
            State.stays("shorten " + Arrays.toString(w), State::busy, x -> Kit.bit(x.shorten(w[0], w[1])), 0);
        }
        for (int n : Kit.FAR) {
            State.stays("shorten by " + n, State::busy, x -> Kit.bit(x.shorten(2, n)), 0);
        }
    }

    private static void shortenOfAnEmptyFile() {
        Kit.says("Promise 5", "or n is not from 0 to as many as it has");
        State.stays("by 0", State::busy, x -> Kit.bit(x.shorten(1, 0)), 1);
        State.stays("by 1", State::busy, x -> Kit.bit(x.shorten(1, 1)), 0);
        State.stays("by -1", State::busy, x -> Kit.bit(x.shorten(1, -1)), 0);
    }

    private static void shortenRefusesOtherFiles() {
        Kit.says("Promise 5", "false when there is no such file");
        for (int f : new int[] {-1, 3, 4}) {
            State.stays("shorten " + f + " by 0", State::busy, x -> Kit.bit(x.shorten(f, 0)), 0);
            State.stays("shorten " + f + " by 1", State::busy, x -> Kit.bit(x.shorten(f, 1)), 0);
        }
        for (int f : Kit.FAR) {
            State.stays("shorten " + f, State::busy, x -> Kit.bit(x.shorten(f, 0)), 0);
            State.stays("shorten " + f, State::busy, x -> Kit.bit(x.shorten(f, f)), 0);
        }
    }

    private static void shortenedBytesDoNotComeBack() {
        Kit.says("Promise 5", "The last n bytes of a file go");
        ParityVolume x = Kit.withFiles(Kit.some(10, 1));
        Kit.due("shorten", x.shorten(0, 3), true);
        Kit.due("length", x.length(0), 7);
        Kit.due("the last that is left", x.at(0, 6), Kit.some(10, 1)[6] & 255);
        Kit.due("the first that went", x.at(0, 7), BAD);
        Kit.due("can't be damaged", x.damage(0, 7, 1), false);
        Kit.due("more than are left", x.shorten(0, 8), false);
        Kit.due("as many as are left", x.shorten(0, 7), true);
        Kit.due("length", x.length(0), 0);
    }

    private static void lengthOfEachFile() {
        Kit.says("Promise 14", "How many bytes file f has");
        State.stays("length 0", State::busy, x -> x.length(0), 21);
        State.stays("length 1", State::busy, x -> x.length(1), 0);
        State.stays("length 2", State::busy, x -> x.length(2), 40);
    }

    private static void lengthRefusesOtherFiles() {
        Kit.says("Promise 14", "BAD");
        for (int f : new int[] {-1, 3, 4}) {
            State.stays("length " + f, State::busy, x -> x.length(f), BAD);
            State.stays("length " + f, ParityVolume::new, x -> x.length(f), BAD);
        }
        for (int f : Kit.FAR) {
            State.stays("length " + f, State::busy, x -> x.length(f), BAD);
        }
    }

    private static void atTellsEachByte() {
        Kit.says("Promise 15", "Byte i of file f");
        byte[][] files = {Kit.bytes(0, 1, 127, 128, 254, 255), Kit.bytes(255), Kit.some(40, 9)};
        ParityVolume x = Kit.withFiles(files);
        for (int f = 0; f < 3; f++) {
            for (int i = 0; i < files[f].length; i++) {
                Kit.due("at " + f + ", " + i, x.at(f, i), files[f][i] & 255);
            }
        }
        State.stays("at 2, 39", State::busy, y -> y.at(2, 39), BUSY.files[2][39] & 255);
    }

    private static void atRefusesOtherPlaces() {
        Kit.says("Promise 15", "BAD when there is none");
        int[][] places = {{0, -1}, {0, 21}, {0, 40}, {1, 0}, {1, -1}, {2, -1}, {2, 40}, {2, 41}};
        for (int[] p : places) {
            State.stays("at " + Arrays.toString(p), State::busy, x -> x.at(p[0], p[1]), BAD);
        }
        for (int i : Kit.FAR) {
            State.stays("at 2, " + i, State::busy, x -> x.at(2, i), BAD);
        }
    }

    private static void atRefusesOtherFiles() {
        Kit.says("Promise 15", "BAD when there is none");
        for (int f : new int[] {-1, 3, 4}) {
            State.stays("at " + f + ", 0", State::busy, x -> x.at(f, 0), BAD);
        }
        for (int f : Kit.FAR) {
            State.stays("at " + f + ", 0", State::busy, x -> x.at(f, 0), BAD);
            State.stays("at " + f + ", " + f, State::busy, x -> x.at(f, f), BAD);
        }
    }
}
