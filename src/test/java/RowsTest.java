/** Promises 1 to 5, 14 and 15: the typed bytes and the files. */
public final class RowsTest {
    private static final int MIN = Integer.MIN_VALUE;
    private static final int MAX = Integer.MAX_VALUE;

    public static void main(String[] args) {
        newObject();
        typing();
        files();
        damaging();
        shortening();
        objectsAreApart();
        Kit.finish();
    }

    private static void newObject() {
        ParityVolume x = new ParityVolume();
        for (int f = 0; f < 3; f++) {
            Kit.due("length of a new file", x.length(f), 0);
            Kit.due("at of a new file", x.at(f, 0), ParityVolume.BAD);
        }
        Kit.due("volume of a new object", x.volume(), 0);
        Kit.due("byteAt of a new object", x.byteAt(0), ParityVolume.BAD);
        Kit.due("nothing is typed", x.file(0), 0);
        Kit.due("scan", x.scan(), ParityVolume.NOTHING);
        Kit.due("verify", x.verify(), ParityVolume.NOTHING);
        Kit.due("repair", x.repair(), ParityVolume.NOTHING);
    }

    private static void typing() {
        ParityVolume x = new ParityVolume();
        for (int n : new int[] {0, -1, 9, MIN, MAX}) {
            Kit.due("type n " + n, x.type(1, n), ParityVolume.BAD);
        }
        Kit.due("type 3", x.type(0xFFFFFF0102FEL, 3), 3);
        Kit.due("type 8", x.type(0x8182838485868788L, 8), 11);
        Kit.due("type 1 of a negative", x.type(-1L, 1), 12);
        Kit.due("file", x.file(1), 12);
        Kit.due("order of typed bytes", Kit.content(x, 1),
                Kit.bytes(1, 2, 254, 0x81, 0x82, 0x83, 0x84, 0x85, 0x86, 0x87, 0x88, 255));
        for (int k = 1; k <= 4; k++) {
            Kit.due("type", x.type(k, 8), 8 * k);
        }
        Kit.due("type 7", x.type(5, 7), 39);
        Kit.due("over 40", x.type(6, 2), ParityVolume.FULL);
        Kit.due("over 40 with 8", x.type(6, 8), ParityVolume.FULL);
        Kit.due("BAD comes first", x.type(6, 9), ParityVolume.BAD);
        Kit.due("40 are in order", x.type(77, 1), 40);
        Kit.due("41 are not", x.type(6, 1), ParityVolume.FULL);
        Kit.due("file of 40", x.file(2), 40);
        Kit.due("last byte", x.at(2, 39), 77);
        Kit.due("nothing came of what was FULL", x.at(2, 38), 5);
        Kit.due("typing begins anew", x.type(1, 1), 1);
    }

    private static void files() {
        ParityVolume x = new ParityVolume();
        x.type(0x4142, 2);
        for (int f : new int[] {-1, 3, MIN, MAX}) {
            Kit.due("file " + f, x.file(f), ParityVolume.BAD);
            Kit.due("length " + f, x.length(f), ParityVolume.BAD);
            Kit.due("at " + f, x.at(f, 0), ParityVolume.BAD);
            Kit.due("damage " + f, x.damage(f, 0, 0), false);
            Kit.due("shorten " + f, x.shorten(f, 0), false);
        }
        Kit.due("what is typed stays when BAD", x.file(2), 2);
        Kit.due("at", x.at(2, 1), 0x42);
        Kit.due("at behind", x.at(2, 2), ParityVolume.BAD);
        Kit.due("at before", x.at(2, -1), ParityVolume.BAD);
        Kit.due("at MIN", x.at(2, MIN), ParityVolume.BAD);
        Kit.due("at MAX", x.at(2, MAX), ParityVolume.BAD);
        Kit.due("others stay", x.length(0) + x.length(1), 0);
        Kit.due("a file without typed bytes", x.file(2), 0);
        Kit.due("is empty", x.length(2), 0);
        Kit.due("no byte left", x.at(2, 0), ParityVolume.BAD);
    }

    private static void damaging() {
        ParityVolume x = new ParityVolume();
        Kit.write(x, 0, Kit.text("abc"));
        Kit.due("damage", x.damage(0, 0, 0), true);
        Kit.due("damage last", x.damage(0, 2, 255), true);
        for (int i : new int[] {-1, 3, 40, MIN, MAX}) {
            Kit.due("damage at " + i, x.damage(0, i, 1), false);
        }
        for (int v : new int[] {-1, 256, MIN, MAX}) {
            Kit.due("damage to " + v, x.damage(0, 1, v), false);
        }
        Kit.due("damaged", Kit.content(x, 0), Kit.bytes(0, 'b', 255));
    }

    private static void shortening() {
        ParityVolume x = new ParityVolume();
        Kit.write(x, 1, Kit.text("abcdef"));
        Kit.due("shorten by 0", x.shorten(1, 0), true);
        Kit.due("shorten by 2", x.shorten(1, 2), true);
        for (int n : new int[] {-1, 5, MIN, MAX}) {
            Kit.due("shorten by " + n, x.shorten(1, n), false);
        }
        Kit.due("shortened", Kit.content(x, 1), Kit.text("abcd"));
        Kit.due("no byte there", x.damage(1, 4, 0), false);
        Kit.due("shorten by all", x.shorten(1, 4), true);
        Kit.due("empty", x.length(1), 0);
        Kit.due("shorten by 1 of none", x.shorten(1, 1), false);
    }

    private static void objectsAreApart() {
        ParityVolume x = new ParityVolume();
        ParityVolume y = new ParityVolume();
        Kit.write(x, 0, Kit.text("abc"));
        x.protect(1);
        x.type(1, 1);
        Kit.due("another's file", y.length(0), 0);
        Kit.due("another's volume", y.volume(), 0);
        Kit.due("another's typed bytes", y.file(0), 0);
    }
}
