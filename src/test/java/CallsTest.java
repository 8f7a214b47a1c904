/** An object answers rightly for all of the 512 calls that the document promises it for. */
public final class CallsTest {
    private static final byte[][] FILES = {Kit.some(40, 1), Kit.some(40, 2), Kit.some(16, 3)};
    private static final int CALLS = 512;
    private static final int MAKING = 15;

    public static void main(String[] args) {
        Kit.says("What it is", "An object is used for at most 512 calls after it has been made");
        sameCallAgain();
        repairUpToTheLast();
        protectUpToTheLast();
        Kit.finish();
    }

    private static void sameCallAgain() {
        ParityVolume typing = new ParityVolume();
        ParityVolume scanning = new ParityVolume();
        ParityVolume writing = new ParityVolume();
        for (int k = 1; k <= CALLS; k++) {
            Kit.due("type, call " + k, typing.type(k, 1), k <= 40 ? k : ParityVolume.FULL);
            Kit.due("scan, call " + k, scanning.scan(), ParityVolume.NOTHING);
            Kit.due("protect, call " + k, writing.protect(k % 7), 244 + 35 * (k % 7));
        }
    }

    private static void repairUpToTheLast() {
        ParityVolume x = Kit.withFiles(FILES);
        Kit.due("protect", x.protect(6), 694);
        int calls = MAKING + 1;
        int round = 0;
        while (calls + 8 <= CALLS) {
            for (int k = 0; k < 6; k++) {
                int j = (round + 2 * k) % 12;
                int i = 8 * (j % 5) + round % 8;
                x.damage(j / 5, i, FILES[j / 5][i] & 255 ^ 1);
            }
            Kit.due("verify, call " + (calls + 7), x.verify(), round % 2 == 0 ? 0x555 : 0xAAA);
            Kit.due("repair, call " + (calls + 8), x.repair(), 6);
            calls += 8;
            round++;
        }
        Kit.due("these were all calls", calls, CALLS);
    }

    private static void protectUpToTheLast() {
        ParityVolume x = Kit.withFiles(FILES);
        int calls = MAKING;
        while (calls + 7 <= CALLS) {
            Kit.due("protect, call " + (calls + 1), x.protect(6), 694);
            Kit.due("cut", x.cut(0, 31), true);
            Kit.due("scan", x.scan(), ParityVolume.NOTHING);
            Kit.due("cut", x.cut(0, 663), true);
            Kit.due("volume", x.volume(), 0);
            Kit.due("protect", x.protect(0), 484);
            Kit.due("scan, call " + (calls + 7), x.scan(), 7);
            calls += 7;
        }
        Kit.due("these were all calls", calls, CALLS);
    }
}
