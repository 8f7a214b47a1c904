import java.util.Arrays;
import java.util.function.Supplier;

/** All that an object holds. One object is promised for 512 calls alone, so each part is read from a new one. */
final class State {
    private static final int PART = 300;
    private static final byte[] SECOND = Kit.some(40, 3);

    final byte[] typed;
    final byte[] volume;
    final byte[][] files;

    /** A call whose answer is looked at; a boolean counts 1 or 0. */
    interface Call {
        long on(ParityVolume x);
    }

    State(byte[] typed, byte[] volume, byte[]... files) {
        this.typed = typed;
        this.volume = volume;
        this.files = files;
    }

    /** Files of 21, 0 and 40 bytes, a volume that protects other ones and is damaged, and 5 typed bytes. */
    static ParityVolume busy() {
        ParityVolume x = Kit.withFiles(Kit.some(21, 1), Kit.some(9, 2), SECOND);
        x.protect(2);
        x.file(1);
        x.damage(0, 20, 255);
        x.alter(100, 0);
        x.alter(200, 255);
        x.type(0x00FF017F80L, 5);
        return x;
    }

    static State of(Supplier<ParityVolume> scene) {
        ParityVolume x = scene.get();
        byte[][] files = {Kit.content(x, 0), Kit.content(x, 1), Kit.content(x, 2)};
        byte[] volume = new byte[x.volume()];
        for (int from = 0; from < volume.length; from += PART) {
            ParityVolume y = scene.get();
            for (int i = from; i < from + PART && i < volume.length; i++) {
                volume[i] = Kit.asByte(y.byteAt(i));
            }
        }
        ParityVolume z = scene.get();
        z.file(0);
        return new State(Kit.content(z, 0), volume, files);
    }

    /** The call answers so, and nothing changes. */
    static void stays(String what, Supplier<ParityVolume> scene, Call call, long answer) {
        becomes(what, scene, call, answer, of(scene));
    }

    /** The call answers so, and all is as it must be then. */
    static void becomes(String what, Supplier<ParityVolume> scene, Call call, long answer, State want) {
        Kit.due(what, call.on(scene.get()), answer);
        State got = of(() -> {
            ParityVolume x = scene.get();
            call.on(x);
            return x;
        });
        got.isDue(what, want);
    }

    void isDue(String what, State want) {
        Kit.due(what + ", then what is typed", typed, want.typed);
        Kit.due(what + ", then the volume", volume, want.volume);
        for (int f = 0; f < 3; f++) {
            Kit.due(what + ", then file " + f, files[f], want.files[f]);
        }
    }

    State withTyped(byte[] other) {
        return new State(other, volume, files);
    }

    State withVolume(byte[] other) {
        return new State(typed, other, files);
    }

    State withFile(int f, byte[] content) {
        byte[][] others = files.clone();
        others[f] = content;
        return new State(typed, volume, others);
    }

    State shortened(int f, int n) {
        return withFile(f, Arrays.copyOf(files[f], files[f].length - n));
    }
}
