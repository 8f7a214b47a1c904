import java.util.Arrays;

/** Promises 6 to 10: what protecting writes, byte for byte, and damage to the volume. */
public final class VolumeTest {
    private static final int MIN = Integer.MIN_VALUE;
    private static final int MAX = Integer.MAX_VALUE;

    public static void main(String[] args) {
        written(0, "", "", "");
        written(6, "", "", "");
        written(1, "a", "", "");
        written(3, "", "12345678", "");
        written(6, "\0\0\0\0\0\0\0\0", "123456789", "x");
        written(2, "Some text of a file, forty bytes of it..", "", "\u00ff\u00fe\u0080");
        written(0, "Some text of a file, forty bytes of it..", "And forty more, so that all is in use ..",
                "sixteen bytes ..");
        wrongInputs();
        altering();
        cutting();
        Kit.finish();
    }

    private static void written(int r, String a, String b, String c) {
        byte[][] files = {Kit.text(a), Kit.text(b), Kit.text(c)};
        byte[] body = Kit.mainBody(files[0].length, files[1].length, files[2].length);
        byte[] set = Kit.setOf(body);
        byte[] want = Kit.packet(Kit.MAIN, set, body);
        for (int f = 0; f < 3; f++) {
            want = Kit.join(want, Kit.filePacket(set, f, files[f]), Kit.checksPacket(set, f, files[f]));
        }
        for (int e = 0; e < r; e++) {
            want = Kit.join(want, Kit.recoveryPacket(set, e, Kit.recoverySlice(e, files)));
        }
        ParityVolume x = new ParityVolume();
        for (int f = 0; f < 3; f++) {
            Kit.write(x, f, files[f]);
        }
        Kit.due("protect", x.protect(r), want.length);
        Kit.due("volume of " + a + "/" + b + "/" + c, firstCalls(x), Arrays.copyOf(want, Math.min(want.length, 450)));
        ParityVolume y = new ParityVolume();
        for (int f = 0; f < 3; f++) {
            Kit.write(y, f, files[f]);
        }
        Kit.due("protect once more", y.protect(r), want.length);
        Kit.due("protect writes anew", y.protect(r), want.length);
        for (int i = Math.max(0, want.length - 450); i < want.length; i++) {
            Kit.due("byte " + i, y.byteAt(i), want[i] & 255);
        }
        Kit.due("byte behind", y.byteAt(want.length), ParityVolume.BAD);
    }

    // An object is promised for 512 calls alone, so the volume is looked at in two halves.
    private static byte[] firstCalls(ParityVolume x) {
        byte[] got = new byte[Math.min(x.volume(), 450)];
        for (int i = 0; i < got.length; i++) {
            got[i] = (byte) x.byteAt(i);
        }
        return got;
    }

    private static void wrongInputs() {
        ParityVolume x = new ParityVolume();
        for (int r : new int[] {-1, 7, MIN, MAX}) {
            Kit.due("protect " + r, x.protect(r), ParityVolume.BAD);
        }
        Kit.due("BAD leaves the volume", x.volume(), 0);
        Kit.write(x, 0, new byte[40]);
        Kit.write(x, 1, new byte[40]);
        Kit.write(x, 2, new byte[16]);
        Kit.due("12 slices", x.protect(0), 484);
        Kit.write(x, 2, new byte[17]);
        Kit.due("13 slices", x.protect(6), ParityVolume.FULL);
        Kit.due("BAD comes first", x.protect(7), ParityVolume.BAD);
        Kit.due("FULL leaves the volume", x.volume(), 484);
        Kit.due("its main packet", x.byteAt(30), 16);
        Kit.due("and all others", x.scan(), 7);
        Kit.write(x, 0, new byte[33]);
        Kit.due("a begun slice is one", x.protect(6), ParityVolume.FULL);
        Kit.write(x, 0, new byte[32]);
        Kit.due("12 again", x.protect(6), 694);
    }

    private static void altering() {
        ParityVolume x = new ParityVolume();
        Kit.due("alter of none", x.alter(0, 0), false);
        Kit.due("protect", x.protect(0), 244);
        Kit.due("alter first", x.alter(0, 255), true);
        Kit.due("alter last", x.alter(243, 0), true);
        for (int i : new int[] {-1, 244, 694, MIN, MAX}) {
            Kit.due("alter at " + i, x.alter(i, 0), false);
            Kit.due("byteAt " + i, x.byteAt(i), ParityVolume.BAD);
        }
        for (int v : new int[] {-1, 256, MIN, MAX}) {
            Kit.due("alter to " + v, x.alter(1, v), false);
        }
        Kit.due("byteAt 0", x.byteAt(0), 255);
        Kit.due("byteAt 1", x.byteAt(1), 75);
        Kit.due("byteAt 243", x.byteAt(243), 0);
    }

    private static void cutting() {
        ParityVolume x = new ParityVolume();
        Kit.due("cut of none", x.cut(0, 1), false);
        x.protect(0);
        for (int i = 0; i < 244; i++) {
            x.alter(i, i);
        }
        int[][] wrong = {{0, 0}, {0, -1}, {0, MIN}, {-1, 1}, {-1, 2}, {MIN, 1}, {MIN, MIN}, {244, 1}, {243, 2},
            {0, 245}, {1, MAX}, {MAX, 1}, {MAX, MAX}, {243, MAX}, {-5, 10}};
        for (int[] w : wrong) {
            Kit.due("cut " + w[0] + ", " + w[1], x.cut(w[0], w[1]), false);
        }
        Kit.due("nothing went", x.volume(), 244);
        Kit.due("cut in the middle", x.cut(10, 5), true);
        Kit.due("how many are left", x.volume(), 239);
        Kit.due("before", x.byteAt(9), 9);
        Kit.due("come closer", x.byteAt(10), 15);
        Kit.due("last", x.byteAt(238), 243);
        Kit.due("behind", x.byteAt(239), ParityVolume.BAD);
        Kit.due("cut the last", x.cut(238, 1), true);
        Kit.due("cut the first", x.cut(0, 1), true);
        Kit.due("first", x.byteAt(0), 1);
        Kit.due("last", x.byteAt(236), 242);
        Kit.due("cut all", x.cut(0, 237), true);
        Kit.due("none is left", x.volume(), 0);
        Kit.due("byteAt", x.byteAt(0), ParityVolume.BAD);
        Kit.due("protect after it", x.protect(6), 454);
        Kit.due("scan after it", x.scan(), 613);
    }
}
