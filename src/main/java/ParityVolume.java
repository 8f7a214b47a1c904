/** Three files and a volume of packets out of which their damaged slices can be found and made again. */
public final class ParityVolume {
    public static final int BAD = -1;
    /** No room. */
    public static final int FULL = -2;
    /** Nothing is protected. */
    public static final int NOTHING = -3;
    /** There are not as many recovery slices as are wanted. */
    public static final int LOST = -4;
    /** What is made is not what a file's sum tells. */
    public static final int WRONG = -5;

    private static final int FILES = 3;
    private static final int FILE_ROOM = 40;
    private static final int SLICE = 8;
    private static final int SLICES = 12;
    private static final int NUMBERS = 4;
    private static final int MOST_RECOVERIES = 6;
    private static final int EXPONENTS = 256;

    private static final int SUM_SIZE = 16;
    private static final int CHECK_SIZE = 4;
    private static final int SET_SIZE = 4;
    private static final int TOLD_SIZE = CHECK_SIZE + SUM_SIZE;

    private static final int MAIN = 77;
    private static final int FILE = 70;
    private static final int CHECKS = 73;
    private static final int RECOVERY = 82;

    private static final int TYPE_PLACE = 3;
    private static final int LENGTH_PLACE = 4;
    private static final int SUM_PLACE = 6;
    private static final int SET_PLACE = SUM_PLACE + SUM_SIZE;
    private static final int HEAD_SIZE = SET_PLACE + SET_SIZE;

    private static final int MAIN_HEAD = 2;
    private static final int FILE_BODY = 2 + SUM_SIZE;
    private static final int RECOVERY_BODY = 1 + SLICE;

    // Only protecting makes the volume longer, so what it can write at most is all the room there need be.
    private static final int VOLUME_ROOM = HEAD_SIZE + MAIN_HEAD + FILES
            + FILES * (HEAD_SIZE + FILE_BODY)
            + FILES * (HEAD_SIZE + 1) + SLICES * TOLD_SIZE
            + MOST_RECOVERIES * (HEAD_SIZE + RECOVERY_BODY);

    private final Row typed;
    private final Row[] files;
    private final Row store;
    private final Slices slices;
    private final Writer writer;
    private final Catalog catalog;
    private final Mender mender;

    public ParityVolume() {
        typed = new Row(FILE_ROOM);
        files = new Row[FILES];
        for (int f = 0; f < FILES; f++) {
            files[f] = new Row(FILE_ROOM);
        }
        store = new Row(VOLUME_ROOM);
        slices = new Slices();
        Sum sum = new Sum();
        Packets packets = new Packets(store, sum);
        writer = new Writer(packets, slices, sum);
        catalog = new Catalog(packets, sum);
        mender = new Mender(catalog, slices, sum);
    }

    public int type(long bits, int n) {
        if (n < 1 || n > 8) {
            return BAD;
        }
        if (typed.size() + n > FILE_ROOM) {
            return FULL;
        }
        for (int k = n - 1; k >= 0; k--) {
            typed.append((int) (bits >>> (8 * k)) & 255);
        }
        return typed.size();
    }

    public int file(int f) {
        if (!isFile(f)) {
            return BAD;
        }
        files[f].become(typed, 0, typed.size());
        typed.clear();
        return files[f].size();
    }

    public boolean damage(int f, int i, int v) {
        return isFile(f) && files[f].set(i, v);
    }

    public boolean shorten(int f, int n) {
        return isFile(f) && files[f].dropLast(n);
    }

    public int protect(int r) {
        if (r < 0 || r > MOST_RECOVERIES) {
            return BAD;
        }
        int wanted = 0;
        for (int f = 0; f < FILES; f++) {
            wanted += slicesOf(files[f].size());
        }
        if (wanted > SLICES) {
            return FULL;
        }
        slices.clear();
        for (int f = 0; f < FILES; f++) {
            slices.addFile(files[f], files[f].size());
        }
        writer.writeAll(r);
        return store.size();
    }

    public int volume() {
        return store.size();
    }

    public int byteAt(int i) {
        return store.has(i) ? store.get(i) : BAD;
    }

    public boolean alter(int i, int v) {
        return store.set(i, v);
    }

    public boolean cut(int i, int n) {
        return store.remove(i, n);
    }

    public int scan() {
        if (!catalog.read()) {
            return NOTHING;
        }
        return catalog.counted() + 100 * catalog.recoveries();
    }

    public int verify() {
        if (!catalog.read()) {
            return NOTHING;
        }
        mender.examine(files);
        return mender.damagedBits();
    }

    public int repair() {
        if (!catalog.read()) {
            return NOTHING;
        }
        mender.examine(files);
        if (!mender.makeDamaged()) {
            return LOST;
        }
        if (!mender.filesAreAsTold()) {
            return WRONG;
        }
        slices.storeInto(files);
        return mender.damagedCount();
    }

    public int length(int f) {
        return isFile(f) ? files[f].size() : BAD;
    }

    public int at(int f, int i) {
        return isFile(f) && files[f].has(i) ? files[f].get(i) : BAD;
    }

    private static boolean isFile(int f) {
        return f >= 0 && f < FILES;
    }

    private static int slicesOf(int fileSize) {
        return (fileSize + SLICE - 1) / SLICE;
    }

    /** Bytes in a row, as many as there is room for. */
    private static final class Row {
        private final int[] bytes;
        private int count;

        Row(int room) {
            bytes = new int[room];
            count = 0;
        }

        int size() {
            return count;
        }

        boolean has(int i) {
            return i >= 0 && i < count;
        }

        /** Byte i, and 0 where the row has none. */
        int get(int i) {
            return i >= 0 && i < count ? bytes[i] : 0;
        }

        boolean set(int i, int v) {
            if (!has(i) || v < 0 || v > 255) {
                return false;
            }
            bytes[i] = v;
            return true;
        }

        void clear() {
            count = 0;
        }

        void append(int v) {
            if (count < bytes.length) {
                bytes[count] = v & 255;
                count++;
            }
        }

        void become(Row other, int from, int n) {
            count = 0;
            for (int i = 0; i < n; i++) {
                append(other.get(from + i));
            }
        }

        boolean dropLast(int n) {
            if (n < 0 || n > count) {
                return false;
            }
            count -= n;
            return true;
        }

        boolean remove(int from, int n) {
            // count - from, since from + n could wrap.
            if (!has(from) || n < 1 || n > count - from) {
                return false;
            }
            System.arraycopy(bytes, from + n, bytes, from, count - from - n);
            count -= n;
            return true;
        }
    }

    /** The sum of the bytes that were added since it began. */
    private static final class Sum {
        private static final int BLOCK = 64;
        private static final int LENGTH_SIZE = 8;
        // The most that is ever summed is less than the volume; behind it a block holds all that is put there.
        private static final int ROOM = (VOLUME_ROOM / BLOCK + 2) * BLOCK;
        private static final int[] K = {
            -680876936, -389564586, 606105819, -1044525330,
            -176418897, 1200080426, -1473231341, -45705983,
            1770035416, -1958414417, -42063, -1990404162,
            1804603682, -40341101, -1502002290, 1236535329,
            -165796510, -1069501632, 643717713, -373897302,
            -701558691, 38016083, -660478335, -405537848,
            568446438, -1019803690, -187363961, 1163531501,
            -1444681467, -51403784, 1735328473, -1926607734,
            -378558, -2022574463, 1839030562, -35309556,
            -1530992060, 1272893353, -155497632, -1094730640,
            681279174, -358537222, -722521979, 76029189,
            -640364487, -421815835, 530742520, -995338651,
            -198630844, 1126891415, -1416354905, -57434055,
            1700485571, -1894986606, -1051523, -2054922799,
            1873313359, -30611744, -1560198380, 1309151649,
            -145523070, -1120210379, 718787259, -343485551
        };
        private static final int[] TURNS = {
            7, 12, 17, 22, 5, 9, 14, 20, 4, 11, 16, 23, 6, 10, 15, 21
        };

        private final int[] message;
        private final int[] words;
        private final int[] state;
        private int count;

        Sum() {
            message = new int[ROOM];
            words = new int[BLOCK / 4];
            state = new int[SUM_SIZE / 4];
            count = 0;
        }

        void begin() {
            count = 0;
        }

        void add(int v) {
            if (count < ROOM) {
                message[count] = v & 255;
                count++;
            }
        }

        void addAll(Row row, int from, int n) {
            for (int i = 0; i < n; i++) {
                add(row.get(from + i));
            }
        }

        void end() {
            int bits = 8 * count;
            add(128);
            for (int k = 0; k < BLOCK && count % BLOCK != BLOCK - LENGTH_SIZE; k++) {
                add(0);
            }
            for (int k = 0; k < LENGTH_SIZE; k++) {
                add(k < 4 ? bits >>> (8 * k) : 0);
            }
            state[0] = 1732584193;
            state[1] = -271733879;
            state[2] = -1732584194;
            state[3] = 271733878;
            for (int from = 0; from + BLOCK <= count; from += BLOCK) {
                mix(from);
            }
        }

        void of(Row row, int from, int n) {
            begin();
            addAll(row, from, n);
            end();
        }

        int get(int i) {
            return i >= 0 && i < SUM_SIZE ? (state[i / 4] >>> (8 * (i % 4))) & 255 : 0;
        }

        /** Whether the first n bytes of the sum stand in the row at a place. */
        boolean standsIn(Row row, int place, int n) {
            for (int i = 0; i < n; i++) {
                if (row.get(place + i) != get(i)) {
                    return false;
                }
            }
            return true;
        }

        private void mix(int from) {
            for (int w = 0; w < BLOCK / 4; w++) {
                int place = from + 4 * w;
                words[w] = message[place] | message[place + 1] << 8
                        | message[place + 2] << 16 | message[place + 3] << 24;
            }
            int a = state[0];
            int b = state[1];
            int c = state[2];
            int d = state[3];
            for (int i = 0; i < BLOCK; i++) {
                int f;
                int g;
                if (i < 16) {
                    f = (b & c) | (~b & d);
                    g = i;
                } else if (i < 32) {
                    f = (d & b) | (~d & c);
                    g = 5 * i + 1;
                } else if (i < 48) {
                    f = b ^ c ^ d;
                    g = 3 * i + 5;
                } else {
                    f = c ^ (b | ~d);
                    g = 7 * i;
                }
                int x = f + a + K[i] + words[g % 16];
                int turn = TURNS[i / 16 * 4 + i % 4];
                a = d;
                d = c;
                c = b;
                b += (x << turn) | (x >>> (32 - turn));
            }
            state[0] += a;
            state[1] += b;
            state[2] += c;
            state[3] += d;
        }
    }

    private static final class Check {
        static int of(Row row, int from, int n) {
            int check = -1;
            for (int i = 0; i < n; i++) {
                check ^= row.get(from + i);
                for (int k = 0; k < 8; k++) {
                    int lowest = check & 1;
                    check >>>= 1;
                    if (lowest == 1) {
                        check ^= -306674912;
                    }
                }
            }
            return ~check;
        }
    }

    private static final class Field {
        private static final int BITS = 16;
        private static final int MODULUS = 69643;
        private static final int[] BASE_LOGS = {1, 2, 4, 7, 8, 11, 13, 14, 16, 19, 22, 23};

        static int times(int a, int b) {
            int product = 0;
            int shifted = a;
            for (int k = 0; k < BITS && b >>> k != 0; k++) {
                if (((b >>> k) & 1) == 1) {
                    product ^= shifted;
                }
                shifted <<= 1;
                if (shifted >>> BITS != 0) {
                    shifted ^= MODULUS;
                }
            }
            return product;
        }

        static int power(int a, int n) {
            int result = 1;
            int square = a;
            for (int k = 0; k < BITS && n >>> k != 0; k++) {
                if (((n >>> k) & 1) == 1) {
                    result = times(result, square);
                }
                square = times(square, square);
            }
            return result;
        }

        static int inverse(int a) {
            // All 65535 numbers but 0 have 1 as their 65535th power.
            return power(a, 65534);
        }

        /** The power of the base that slice j has. */
        static int basePower(int j, int exponent) {
            return j >= 0 && j < SLICES ? power(2, BASE_LOGS[j] * exponent) : 0;
        }
    }

    /** The slices of some files, one file behind the other. */
    private static final class Slices {
        private final Row content;
        private final int[] starts;
        private final int[] sizes;
        private final int[] weighed;
        private int fileCount;

        Slices() {
            weighed = new int[NUMBERS];
            content = new Row(SLICES * SLICE);
            starts = new int[FILES];
            sizes = new int[FILES];
            fileCount = 0;
        }

        void clear() {
            content.clear();
            fileCount = 0;
        }

        /** The file as if it had the size that is told: what it has beyond is left out, what lacks is 0. */
        void addFile(Row file, int told) {
            if (fileCount >= FILES) {
                return;
            }
            starts[fileCount] = content.size();
            sizes[fileCount] = told;
            fileCount++;
            int end = SLICE * slicesOf(told);
            for (int i = 0; i < end; i++) {
                content.append(i < told ? file.get(i) : 0);
            }
        }

        void storeInto(Row[] files) {
            for (int f = 0; f < fileCount && f < files.length; f++) {
                files[f].become(content, starts[f], sizes[f]);
            }
        }

        Row row() {
            return content;
        }

        int fileCount() {
            return fileCount;
        }

        int start(int f) {
            return isFile(f) ? starts[f] : 0;
        }

        int size(int f) {
            return isFile(f) ? sizes[f] : 0;
        }

        /** Makes the recovery slice with the exponent, without the slices that are left out (slice j as 2^j). */
        void weigh(int exponent, int leftOut) {
            for (int q = 0; q < NUMBERS; q++) {
                weighed[q] = 0;
            }
            int count = content.size() / SLICE;
            for (int j = 0; j < count; j++) {
                if (((leftOut >>> j) & 1) == 0) {
                    int factor = Field.basePower(j, exponent);
                    for (int q = 0; q < NUMBERS; q++) {
                        weighed[q] ^= Field.times(number(j, q), factor);
                    }
                }
            }
        }

        /** Number q of the slice that was made last by weighing. */
        int weighed(int q) {
            return q >= 0 && q < NUMBERS ? weighed[q] : 0;
        }

        void setNumber(int j, int q, int value) {
            int place = SLICE * j + 2 * q;
            content.set(place, value & 255);
            content.set(place + 1, (value >>> 8) & 255);
        }

        private int number(int j, int q) {
            int place = SLICE * j + 2 * q;
            return content.get(place) | content.get(place + 1) << 8;
        }
    }

    /** How a packet stands in the volume. */
    private static final class Packets {
        private final Row row;
        private final Sum sum;
        private int openAt;

        Packets(Row row, Sum sum) {
            this.row = row;
            this.sum = sum;
            openAt = 0;
        }

        Row row() {
            return row;
        }

        int kind(int place) {
            return row.get(place + TYPE_PLACE);
        }

        int body(int place) {
            return place + HEAD_SIZE;
        }

        int bodySize(int place) {
            return row.get(place + LENGTH_PLACE) | row.get(place + LENGTH_PLACE + 1) << 8;
        }

        boolean standsWhole(int place) {
            if (row.get(place) != 80 || row.get(place + 1) != 75 || row.get(place + 2) != 84) {
                return false;
            }
            if (body(place) + bodySize(place) > row.size()) {
                return false;
            }
            sumUp(place);
            return sum.standsIn(row, place + SUM_PLACE, SUM_SIZE);
        }

        boolean haveSameSet(int place, int other) {
            for (int k = 0; k < SET_SIZE; k++) {
                if (row.get(place + SET_PLACE + k) != row.get(other + SET_PLACE + k)) {
                    return false;
                }
            }
            return true;
        }

        /** Begins a packet at the volume's end; what is appended there is its body. */
        void open(int kind) {
            openAt = row.size();
            row.append(80);
            row.append(75);
            row.append(84);
            row.append(kind);
            for (int k = LENGTH_PLACE; k < HEAD_SIZE; k++) {
                row.append(0);
            }
        }

        /** Ends a packet, with the set of the one that stands first in the volume. */
        void close() {
            int size = row.size() - body(openAt);
            for (int k = 0; k < SET_SIZE; k++) {
                row.set(openAt + SET_PLACE + k, row.get(SET_PLACE + k));
            }
            row.set(openAt + LENGTH_PLACE, size & 255);
            row.set(openAt + LENGTH_PLACE + 1, (size >>> 8) & 255);
            sumUp(openAt);
            for (int k = 0; k < SUM_SIZE; k++) {
                row.set(openAt + SUM_PLACE + k, sum.get(k));
            }
        }

        private void sumUp(int place) {
            sum.begin();
            sum.addAll(row, place + TYPE_PLACE, SUM_PLACE - TYPE_PLACE);
            sum.addAll(row, place + SET_PLACE, SET_SIZE + bodySize(place));
            sum.end();
        }
    }

    /** Writes the volume anew for the files whose slices are there. */
    private static final class Writer {
        private final Packets packets;
        private final Row row;
        private final Slices slices;
        private final Sum sum;

        Writer(Packets packets, Slices slices, Sum sum) {
            this.packets = packets;
            this.row = packets.row();
            this.slices = slices;
            this.sum = sum;
        }

        void writeAll(int recoveries) {
            row.clear();
            writeMain();
            for (int f = 0; f < slices.fileCount(); f++) {
                writeFile(f);
                writeChecks(f);
            }
            for (int e = 0; e < recoveries; e++) {
                writeRecovery(e);
            }
        }

        private void writeMain() {
            packets.open(MAIN);
            row.append(SLICE);
            row.append(slices.fileCount());
            for (int f = 0; f < slices.fileCount(); f++) {
                row.append(slices.size(f));
            }
            sum.of(row, HEAD_SIZE, row.size() - HEAD_SIZE);
            for (int k = 0; k < SET_SIZE; k++) {
                row.set(SET_PLACE + k, sum.get(k));
            }
            packets.close();
        }

        private void writeFile(int f) {
            packets.open(FILE);
            row.append(f);
            row.append(slices.size(f));
            sum.of(slices.row(), slices.start(f), slices.size(f));
            appendSum();
            packets.close();
        }

        private void writeChecks(int f) {
            packets.open(CHECKS);
            row.append(f);
            int count = slicesOf(slices.size(f));
            for (int k = 0; k < count; k++) {
                int from = slices.start(f) + SLICE * k;
                int check = Check.of(slices.row(), from, SLICE);
                for (int i = 0; i < CHECK_SIZE; i++) {
                    row.append(check >>> (8 * i));
                }
                sum.of(slices.row(), from, SLICE);
                appendSum();
            }
            packets.close();
        }

        private void writeRecovery(int exponent) {
            packets.open(RECOVERY);
            row.append(exponent);
            slices.weigh(exponent, 0);
            for (int q = 0; q < NUMBERS; q++) {
                row.append(slices.weighed(q));
                row.append(slices.weighed(q) >>> 8);
            }
            packets.close();
        }

        private void appendSum() {
            for (int i = 0; i < SUM_SIZE; i++) {
                row.append(sum.get(i));
            }
        }
    }

    /** What scanning finds in the volume: the main packet, and the bodies of the packets that count. */
    private static final class Catalog {
        private static final int NONE = -1;

        private final Packets packets;
        private final Row row;
        private final Sum sum;
        private final int[] found;
        private final int[] fileBodies;
        private final int[] checksBodies;
        private final int[] recoveryBodies;
        private int foundCount;
        private int mainPlace;
        private int counted;
        private int recoveries;

        Catalog(Packets packets, Sum sum) {
            this.packets = packets;
            this.row = packets.row();
            this.sum = sum;
            found = new int[VOLUME_ROOM / HEAD_SIZE];
            fileBodies = new int[FILES];
            checksBodies = new int[FILES];
            recoveryBodies = new int[EXPONENTS];
            foundCount = 0;
            mainPlace = NONE;
            counted = 0;
            recoveries = 0;
        }

        /** Scans the volume; false if nothing is protected. */
        boolean read() {
            forget();
            for (int i = 0; i < row.size() && foundCount < found.length; i++) {
                if (packets.standsWhole(i)) {
                    found[foundCount] = i;
                    foundCount++;
                    i += HEAD_SIZE + packets.bodySize(i) - 1;
                }
            }
            findMain();
            if (mainPlace == NONE) {
                return false;
            }
            counted = 1;
            for (int k = 0; k < foundCount; k++) {
                countPacket(found[k]);
            }
            return true;
        }

        int counted() {
            return counted;
        }

        int recoveries() {
            return recoveries;
        }

        int fileCount() {
            return mainPlace == NONE ? 0 : row.get(packets.body(mainPlace) + 1);
        }

        int toldSize(int f) {
            return row.get(packets.body(mainPlace) + MAIN_HEAD + f);
        }

        /** Whether the file's bytes, of which the sum was made, are those that its packet tells, if it has one. */
        boolean agreesWithSum(int f) {
            return !isFile(f) || fileBodies[f] == NONE || sum.standsIn(row, fileBodies[f] + 2, SUM_SIZE);
        }

        /** The place where check and sum of slice k of the file are told, NONE if they are not. */
        int toldSlice(int f, int k) {
            return !isFile(f) || checksBodies[f] == NONE ? NONE : checksBodies[f] + 1 + TOLD_SIZE * k;
        }

        boolean hasRecovery(int exponent) {
            return exponent >= 0 && exponent < EXPONENTS && recoveryBodies[exponent] != NONE;
        }

        int recoveryNumber(int exponent, int q) {
            if (!hasRecovery(exponent)) {
                return 0;
            }
            int place = recoveryBodies[exponent] + 1 + 2 * q;
            return row.get(place) | row.get(place + 1) << 8;
        }

        Row row() {
            return row;
        }

        private void forget() {
            foundCount = 0;
            mainPlace = NONE;
            counted = 0;
            recoveries = 0;
            for (int f = 0; f < FILES; f++) {
                fileBodies[f] = NONE;
                checksBodies[f] = NONE;
            }
            for (int e = 0; e < EXPONENTS; e++) {
                recoveryBodies[e] = NONE;
            }
        }

        private void findMain() {
            for (int k = 0; k < foundCount && mainPlace == NONE; k++) {
                if (packets.kind(found[k]) == MAIN && isMain(found[k])) {
                    mainPlace = found[k];
                }
            }
        }

        private boolean isMain(int place) {
            int body = packets.body(place);
            int size = packets.bodySize(place);
            int files = row.get(body + 1);
            if (files < 1 || files > FILES || size != MAIN_HEAD + files || row.get(body) != SLICE) {
                return false;
            }
            int wanted = 0;
            for (int f = 0; f < files; f++) {
                int told = row.get(body + MAIN_HEAD + f);
                if (told > FILE_ROOM) {
                    return false;
                }
                wanted += slicesOf(told);
            }
            if (wanted > SLICES) {
                return false;
            }
            sum.of(row, body, size);
            return sum.standsIn(row, place + SET_PLACE, SET_SIZE);
        }

        private void countPacket(int place) {
            int size = packets.bodySize(place);
            if (size < 1 || !packets.haveSameSet(place, mainPlace)) {
                return;
            }
            int body = packets.body(place);
            int first = row.get(body);
            boolean ofFile = first < fileCount();
            switch (packets.kind(place)) {
                case FILE:
                    if (ofFile && size == FILE_BODY && row.get(body + 1) == toldSize(first)) {
                        keepFirst(fileBodies, first, body);
                    }
                    break;
                case CHECKS:
                    if (ofFile && size == 1 + TOLD_SIZE * slicesOf(toldSize(first))) {
                        keepFirst(checksBodies, first, body);
                    }
                    break;
                case RECOVERY:
                    if (size == RECOVERY_BODY && keepFirst(recoveryBodies, first, body)) {
                        recoveries++;
                    }
                    break;
                default:
                    break;
            }
        }

        private boolean keepFirst(int[] bodies, int index, int body) {
            if (index < 0 || index >= bodies.length || bodies[index] != NONE) {
                return false;
            }
            bodies[index] = body;
            counted++;
            return true;
        }
    }

    /** Equations in the slices that are wanted: a number for each of these, and four that they come to. */
    private static final class Equations {
        private final int[][] rows;
        private final int[] pivots;
        private int unknowns;
        private int taken;

        Equations() {
            rows = new int[SLICES][SLICES + NUMBERS];
            pivots = new int[SLICES];
            unknowns = 0;
            taken = 0;
        }

        void begin(int wanted) {
            unknowns = Math.min(wanted, SLICES);
            taken = 0;
        }

        boolean enough() {
            return taken >= unknowns;
        }

        /** Puts a number into the equation that is offered next. */
        void offerFactor(int unknown, int value) {
            if (!enough() && unknown >= 0 && unknown < unknowns) {
                rows[taken][unknown] = value;
            }
        }

        void offerResult(int q, int value) {
            if (!enough() && q >= 0 && q < NUMBERS) {
                rows[taken][SLICES + q] = value;
            }
        }

        /** Takes the equation that was offered, unless it follows from those taken before. */
        void takeOffered() {
            if (enough()) {
                return;
            }
            for (int t = 0; t < taken; t++) {
                addMultiple(taken, t, rows[taken][pivots[t]]);
            }
            for (int u = 0; u < unknowns; u++) {
                if (rows[taken][u] != 0) {
                    pivots[taken] = u;
                    scale(taken, Field.inverse(rows[taken][u]));
                    taken++;
                    return;
                }
            }
        }

        /** Leaves in each equation one unknown alone. */
        void solve() {
            for (int t = taken - 1; t > 0; t--) {
                for (int s = 0; s < t; s++) {
                    addMultiple(s, t, rows[s][pivots[t]]);
                }
            }
        }

        int takenCount() {
            return taken;
        }

        int unknownOf(int t) {
            return t >= 0 && t < taken ? pivots[t] : 0;
        }

        int resultOf(int t, int q) {
            return t >= 0 && t < taken && q >= 0 && q < NUMBERS ? rows[t][SLICES + q] : 0;
        }

        private void addMultiple(int target, int source, int factor) {
            if (factor == 0) {
                return;
            }
            for (int k = 0; k < SLICES + NUMBERS; k++) {
                if (k < unknowns || k >= SLICES) {
                    rows[target][k] ^= Field.times(factor, rows[source][k]);
                }
            }
        }

        private void scale(int target, int factor) {
            for (int k = 0; k < SLICES + NUMBERS; k++) {
                if (k < unknowns || k >= SLICES) {
                    rows[target][k] = Field.times(factor, rows[target][k]);
                }
            }
        }
    }

    /** Finds the damaged slices and makes them again. */
    private static final class Mender {
        private final Catalog catalog;
        private final Slices slices;
        private final Sum sum;
        private final Equations equations;
        private final int[] damaged;
        private int damagedCount;
        private int damagedBits;

        Mender(Catalog catalog, Slices slices, Sum sum) {
            this.catalog = catalog;
            this.slices = slices;
            this.sum = sum;
            equations = new Equations();
            damaged = new int[SLICES];
            damagedCount = 0;
            damagedBits = 0;
        }

        int damagedCount() {
            return damagedCount;
        }

        int damagedBits() {
            return damagedBits;
        }

        void examine(Row[] files) {
            damagedCount = 0;
            damagedBits = 0;
            slices.clear();
            int fileCount = Math.min(catalog.fileCount(), files.length);
            for (int f = 0; f < fileCount; f++) {
                slices.addFile(files[f], catalog.toldSize(f));
            }
            for (int f = 0; f < fileCount; f++) {
                int count = slicesOf(slices.size(f));
                for (int k = 0; k < count; k++) {
                    int from = slices.start(f) + SLICE * k;
                    if (!isWhole(from, catalog.toldSlice(f, k))) {
                        noteDamaged(from / SLICE);
                    }
                }
            }
        }

        /** False if there are too few recovery slices. */
        boolean makeDamaged() {
            equations.begin(damagedCount);
            for (int e = 0; e < EXPONENTS && !equations.enough(); e++) {
                if (catalog.hasRecovery(e)) {
                    offerRecovery(e);
                }
            }
            if (!equations.enough()) {
                return false;
            }
            equations.solve();
            for (int t = 0; t < equations.takenCount(); t++) {
                for (int q = 0; q < NUMBERS; q++) {
                    slices.setNumber(damaged[equations.unknownOf(t)], q, equations.resultOf(t, q));
                }
            }
            return true;
        }

        boolean filesAreAsTold() {
            for (int f = 0; f < slices.fileCount(); f++) {
                sum.of(slices.row(), slices.start(f), slices.size(f));
                if (!catalog.agreesWithSum(f)) {
                    return false;
                }
            }
            return true;
        }

        private boolean isWhole(int from, int told) {
            if (told == Catalog.NONE) {
                return false;
            }
            int check = Check.of(slices.row(), from, SLICE);
            for (int i = 0; i < CHECK_SIZE; i++) {
                if (catalog.row().get(told + i) != ((check >>> (8 * i)) & 255)) {
                    return false;
                }
            }
            sum.of(slices.row(), from, SLICE);
            return sum.standsIn(catalog.row(), told + CHECK_SIZE, SUM_SIZE);
        }

        private void noteDamaged(int j) {
            if (damagedCount < SLICES) {
                damaged[damagedCount] = j;
                damagedCount++;
                damagedBits |= 1 << j;
            }
        }

        private void offerRecovery(int exponent) {
            for (int u = 0; u < damagedCount; u++) {
                equations.offerFactor(u, Field.basePower(damaged[u], exponent));
            }
            slices.weigh(exponent, damagedBits);
            for (int q = 0; q < NUMBERS; q++) {
                equations.offerResult(q, catalog.recoveryNumber(exponent, q) ^ slices.weighed(q));
            }
            equations.takeOffered();
        }
    }
}
