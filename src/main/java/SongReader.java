/**
 * A reader of pressed sound in pages: a tape is fed, pages are put round its bytes, and the whole is
 * read into samples. The document's words (PAGE, LACE, BOOK, POST, CLASS ..) are the names used here.
 *
 * All rows are made with the object and used again; no call makes anything.
 */
public final class SongReader {
    public static final int NONE = -1;

    private static final int CHANNELS_MOST = 2;
    private static final int BLOCK = 16;

    private final Tape tape;
    private final Packets packets;
    private final Bits bits;
    private final Setup setup;
    private final Curve curve;
    private final Sums sums;
    private final Voice[] voices;
    private int channels;
    private int samples;
    private int counted;
    private int passed;

    public SongReader() {
        tape = new Tape();
        packets = new Packets();
        bits = new Bits();
        setup = new Setup();
        curve = new Curve();
        sums = new Sums();
        voices = new Voice[CHANNELS_MOST];
        for (int c = 0; c < voices.length; c++) {
            voices[c] = new Voice();
        }
        channels = 0;
        samples = 0;
        counted = 0;
        passed = 0;
    }

    public int feed(int a, int b, int c, int d, int e) {
        if (tape.size + 20 > Tape.MOST) {
            return NONE;
        }
        tape.putHighestFirst(a);
        tape.putHighestFirst(b);
        tape.putHighestFirst(c);
        tape.putHighestFirst(d);
        tape.putHighestFirst(e);
        return tape.size;
    }

    public boolean end(int n) {
        if (n < 0 || n > tape.size) {
            return false;
        }
        tape.size = n;
        return true;
    }

    public boolean harm(int i, int b) {
        if (i < 0 || i >= tape.size) {
            return false;
        }
        tape.setByte(i, tape.byteAt(i) ^ b);
        return true;
    }

    public int page(int from, int flags, long granule, int serial, int number, boolean open) {
        if (from < 0 || from > tape.size) {
            return NONE;
        }
        int body = tape.size - from;
        int rest = body % Tape.LACE_FULL;
        if (open && rest != 0) {
            return NONE;
        }
        int laces = body / Tape.LACE_FULL + (open ? 0 : 1);
        if (laces > Tape.LACES_MOST || tape.size + Tape.HEAD + laces > Tape.MOST) {
            return NONE;
        }
        tape.openGap(from, Tape.HEAD + laces);
        tape.writeHead(from, flags, granule, serial, number);
        tape.writeLaces(from, laces, open ? Tape.LACE_FULL : rest);
        tape.writeFour(from + Tape.AT_CRC, tape.crc(from, tape.size));
        return tape.size;
    }

    public int read() {
        channels = 0;
        samples = 0;
        counted = 0;
        passed = 0;
        packets.gather(tape);
        tape.size = 0;
        int fault = learnSetup();
        if (fault != 0) {
            return -fault;
        }
        channels = setup.channels;
        playSounds();
        samples = cutWhereTold(Math.max(0, counted - 1) * BLOCK);
        return samples;
    }

    public int sample(int channel, int i) {
        if (!hasVoice(channel) || i < 0 || i >= samples) {
            return 0;
        }
        return voices[channel].sampleAt(i);
    }

    public int look(int what) {
        switch (what) {
            case 0:
                return packets.pages;
            case 1:
                return packets.otherPages;
            case 2:
                return packets.count;
            case 3:
                return counted;
            case 4:
                return passed;
            case 5:
                return channels;
            case 6:
                return packets.tooLong;
            case 7:
                return packets.longest;
            default:
                return NONE;
        }
    }

    public int sum(int channel) {
        if (!hasVoice(channel)) {
            return 0;
        }
        int total = 0;
        for (int i = 0; i < samples; i++) {
            total += voices[channel].sampleAt(i) * (1 + i);
        }
        return total;
    }

    public int taped() {
        return tape.size;
    }

    private boolean hasVoice(int channel) {
        return channel >= 0 && channel < channels && channel < voices.length;
    }

    private int learnSetup() {
        if (packets.count == 0) {
            return Setup.FAULT_NO_PACKET;
        }
        bits.open(tape.row, packets.startOf(0), packets.lengthOf(0));
        return setup.learn(bits);
    }

    private void playSounds() {
        for (int p = 1; p < packets.count; p++) {
            bits.open(tape.row, packets.startOf(p), packets.lengthOf(p));
            if (learnCurves()) {
                learnRests();
                layHalves();
                counted++;
            } else {
                passed++;
            }
        }
    }

    private boolean learnCurves() {
        for (int c = 0; c < channels && c < voices.length; c++) {
            Voice voice = voices[c];
            int heard = bits.bit();
            if (heard < 0) {
                return false;
            }
            voice.silent = heard == 0;
            if (!voice.silent) {
                if (!curve.learn(setup, bits)) {
                    return false;
                }
                curve.draw(setup, voice.heights);
            }
        }
        return true;
    }

    private void learnRests() {
        boolean leaning = setup.leaning;
        boolean oneIsHeard = !voices[0].silent || !voices[1].silent;
        for (int c = 0; c < channels && c < voices.length; c++) {
            voices[c].clearNumbers();
        }
        for (int c = 0; c < channels && c < voices.length; c++) {
            boolean heard = leaning ? oneIsHeard : !voices[c].silent;
            // An end in one CHANNEL's numbers leaves nothing for the next: the bits stay at their end.
            if (heard) {
                setup.learnNumbers(bits, voices[c].numbers);
            }
        }
        if (leaning && oneIsHeard) {
            straighten(voices[0].numbers, voices[1].numbers);
        }
    }

    private static void straighten(int[] first, int[] second) {
        for (int k = 0; k < first.length && k < second.length; k++) {
            int m = first[k];
            int a = second[k];
            if (m > 0) {
                first[k] = a > 0 ? m : m + a;
                second[k] = a > 0 ? m - a : m;
            } else {
                first[k] = a > 0 ? m : m - a;
                second[k] = a > 0 ? m + a : m;
            }
        }
    }

    private void layHalves() {
        for (int c = 0; c < channels && c < voices.length; c++) {
            sums.add(voices[c]);
            if (counted > 0) {
                voices[c].putSamples((counted - 1) * BLOCK, sums.halves);
            }
            voices[c].keepSecondHalf(sums.halves);
        }
    }

    private int cutWhereTold(int whole) {
        if (packets.last && packets.granule >= 0 && packets.granule < whole) {
            return (int) packets.granule;
        }
        return whole;
    }

    /** The bytes, and the PAGES among them. */
    private static final class Tape {
        static final int MOST = 6000;
        static final int HEAD = 27;
        static final int LACE_FULL = 255;
        static final int LACES_MOST = 255;
        static final int AT_FLAGS = 5;
        static final int AT_GRANULE = 6;
        static final int AT_SERIAL = 14;
        static final int AT_NUMBER = 18;
        static final int AT_CRC = 22;
        static final int AT_COUNT = 26;

        // What four doublings make of the four highest bits: two looks a byte in place of eight doublings.
        private static final int[] TURNS = {
            0x00000000, 0x04c11db7, 0x09823b6e, 0x0d4326d9, 0x130476dc, 0x17c56b6b, 0x1a864db2, 0x1e475005,
            0x2608edb8, 0x22c9f00f, 0x2f8ad6d6, 0x2b4bcb61, 0x350c9b64, 0x31cd86d3, 0x3c8ea00a, 0x384fbdbd
        };

        final byte[] row;
        int size;

        Tape() {
            row = new byte[MOST];
            size = 0;
        }

        int byteAt(int i) {
            return i >= 0 && i < size && i < row.length ? row[i] & 255 : 0;
        }

        void setByte(int i, int value) {
            if (i >= 0 && i < row.length) {
                row[i] = (byte) value;
            }
        }

        void putHighestFirst(int number) {
            for (int shift = 24; shift >= 0; shift -= 8) {
                setByte(size, number >>> shift);
                size++;
            }
        }

        void writeFour(int at, int number) {
            for (int i = 0; i < 4; i++) {
                setByte(at + i, number >>> (8 * i));
            }
        }

        int fourAt(int at) {
            int number = 0;
            for (int i = 3; i >= 0; i--) {
                number = (number << 8) | byteAt(at + i);
            }
            return number;
        }

        long eightAt(int at) {
            long low = fourAt(at) & 0xffffffffL;
            return ((long) fourAt(at + 4) << 32) | low;
        }

        void openGap(int from, int gap) {
            int body = size - from;
            if (from < 0 || body < 0 || gap < 0 || size + gap > row.length) {
                return;
            }
            System.arraycopy(row, from, row, from + gap, body);
            size += gap;
        }

        void moveBack(int from, int to, int count) {
            if (from < 0 || to < 0 || count < 0 || from + count > row.length || to + count > row.length) {
                return;
            }
            System.arraycopy(row, from, row, to, count);
        }

        void writeHead(int at, int flags, long granule, int serial, int number) {
            setByte(at, 79);
            setByte(at + 1, 103);
            setByte(at + 2, 103);
            setByte(at + 3, 83);
            setByte(at + 4, 0);
            setByte(at + AT_FLAGS, flags);
            writeFour(at + AT_GRANULE, (int) granule);
            writeFour(at + AT_GRANULE + 4, (int) (granule >>> 32));
            writeFour(at + AT_SERIAL, serial);
            writeFour(at + AT_NUMBER, number);
            writeFour(at + AT_CRC, 0);
        }

        void writeLaces(int at, int laces, int lastLace) {
            setByte(at + AT_COUNT, laces);
            for (int i = 0; i < laces; i++) {
                setByte(at + HEAD + i, i == laces - 1 ? lastLace : LACE_FULL);
            }
        }

        /** How many bytes the right PAGE at this place has; 0 if there is none. */
        int rightPageAt(int at) {
            if (!hasMarkAt(at) || at + HEAD > size) {
                return 0;
            }
            int laces = byteAt(at + AT_COUNT);
            int whole = HEAD + laces;
            if (at + whole > size) {
                return 0;
            }
            for (int i = 0; i < laces; i++) {
                whole += byteAt(at + HEAD + i);
            }
            if (at + whole > size || crc(at, at + whole) != fourAt(at + AT_CRC)) {
                return 0;
            }
            return whole;
        }

        private boolean hasMarkAt(int at) {
            return byteAt(at) == 79 && byteAt(at + 1) == 103 && byteAt(at + 2) == 103
                && byteAt(at + 3) == 83 && byteAt(at + 4) == 0;
        }

        /** The CRC of a PAGE from its first place to just ahead of the other, 0s standing for its own. */
        int crc(int from, int to) {
            int bits = crcOn(0, from, from + AT_CRC);
            for (int i = 0; i < 4; i++) {
                bits = turned(bits);
            }
            return crcOn(bits, from + AT_CRC + 4, to);
        }

        private int crcOn(int ahead, int from, int to) {
            int bits = ahead;
            for (int i = Math.max(0, from); i < to && i < row.length; i++) {
                bits = turned(bits ^ row[i] << 24);
            }
            return bits;
        }

        private static int turned(int bits) {
            int half = (bits << 4) ^ TURNS[bits >>> 28];
            return (half << 4) ^ TURNS[half >>> 28];
        }
    }

    /**
     * The PACKETS that count. Their bytes are moved to the tape's front: what is kept is always fewer bytes
     * than have been passed, so the tape's own row holds them.
     */
    private static final class Packets {
        private static final int COUNT_MOST = 60;
        private static final int LENGTH_MOST = 2000;

        int count;
        int pages;
        int otherPages;
        int tooLong;
        int longest;
        boolean last;
        long granule;
        private final int[] starts;
        private final int[] lengths;
        private final int[] laces;
        private int serial;
        private int number;
        private int kept;
        // The bytes of the PACKET that is begun; such a one has 255 at the least, so 0 says that none is.
        private int begun;

        Packets() {
            starts = new int[COUNT_MOST];
            lengths = new int[COUNT_MOST];
            laces = new int[Tape.LACES_MOST];
            forget();
        }

        int startOf(int packet) {
            return packet >= 0 && packet < starts.length ? starts[packet] : 0;
        }

        int lengthOf(int packet) {
            return packet >= 0 && packet < lengths.length ? lengths[packet] : 0;
        }

        void gather(Tape tape) {
            forget();
            int at = 0;
            for (int tries = 0; tries < Tape.MOST && at < tape.size; tries++) {
                int whole = tape.rightPageAt(at);
                if (whole > 0) {
                    takePage(tape, at);
                }
                at += Math.max(1, whole);
            }
        }

        private void forget() {
            count = 0;
            pages = 0;
            otherPages = 0;
            tooLong = 0;
            longest = 0;
            last = false;
            granule = 0;
            serial = 0;
            number = 0;
            kept = 0;
            begun = 0;
        }

        private void takePage(Tape tape, int at) {
            int itsSerial = tape.fourAt(at + Tape.AT_SERIAL);
            if (pages == 0) {
                serial = itsSerial;
            }
            if (itsSerial != serial) {
                otherPages++;
                return;
            }
            int itsNumber = tape.fourAt(at + Tape.AT_NUMBER);
            int flags = tape.byteAt(at + Tape.AT_FLAGS);
            boolean goesOn = (flags & 1) != 0;
            if (!goesOn || itsNumber != number + 1) {
                begun = 0;
            }
            pages++;
            number = itsNumber;
            last = (flags & 4) != 0;
            granule = tape.eightAt(at + Tape.AT_GRANULE);
            takeLaces(tape, at, goesOn && begun == 0);
        }

        private void takeLaces(Tape tape, int at, boolean throwingAway) {
            int laceCount = Math.min(tape.byteAt(at + Tape.AT_COUNT), laces.length);
            // Taken aside first, since the PAGE's bytes may be moved over its own head.
            for (int i = 0; i < laceCount; i++) {
                laces[i] = tape.byteAt(at + Tape.HEAD + i);
            }
            boolean thrown = throwingAway;
            int from = at + Tape.HEAD + laceCount;
            for (int i = 0; i < laceCount; i++) {
                if (!thrown) {
                    takeLace(tape, from, laces[i]);
                } else if (laces[i] < Tape.LACE_FULL) {
                    thrown = false;
                }
                from += laces[i];
            }
        }

        private void takeLace(Tape tape, int from, int lace) {
            if (begun + lace <= LENGTH_MOST) {
                tape.moveBack(from, kept + begun, lace);
            }
            begun += lace;
            if (lace < Tape.LACE_FULL) {
                endPacket();
            }
        }

        private void endPacket() {
            if (begun > LENGTH_MOST) {
                tooLong++;
            } else if (count >= 0 && count < COUNT_MOST) {
                starts[count] = kept;
                lengths[count] = begun;
                count++;
                kept += begun;
                longest = Math.max(longest, begun);
            }
            begun = 0;
        }
    }

    /** The BITS of one PACKET. Once at their end they stay there. */
    private static final class Bits {
        private byte[] row;
        private int at;
        private int behind;

        Bits() {
            row = new byte[0];
            at = 0;
            behind = 0;
        }

        void open(byte[] packetRow, int start, int length) {
            row = packetRow;
            at = 8 * start;
            behind = 8 * (start + length);
        }

        void close() {
            at = behind;
        }

        /** The next bit; NONE at the end. */
        int bit() {
            int place = at >> 3;
            if (at >= behind || place < 0 || place >= row.length) {
                return NONE;
            }
            int value = (row[place] >> (at & 7)) & 1;
            at++;
            return value;
        }

        /** The next number of so many bits; NONE if they end ahead of it. */
        int number(int count) {
            int value = 0;
            for (int i = 0; i < count; i++) {
                int next = bit();
                if (next < 0) {
                    return NONE;
                }
                value |= next << i;
            }
            return value;
        }
    }

    /** A code book: its ENTRIES' words as a tree, and its VALUES. */
    private static final class Book {
        static final int ENTRIES_MOST = 64;
        private static final int LENGTH_MOST = 15;
        private static final int BRANCHES = 2 * ENTRIES_MOST;

        int width;
        boolean hasValues;
        private int entries;
        private int least;
        private int step;
        private boolean adding;
        private int q;
        private final int[] numbers;
        private final int[] lengths;
        // Two branches a fork: a fork's number (the root's, 0, says: none), or -1 - ENTRY.
        private final int[] tree;
        private int forks;
        // By length: the one word of that length that is free while no shorter beginning of it is; or NONE.
        private final int[] free;

        Book() {
            width = 1;
            entries = 0;
            q = 1;
            numbers = new int[ENTRIES_MOST];
            lengths = new int[ENTRIES_MOST];
            tree = new int[BRANCHES];
            free = new int[LENGTH_MOST + 1];
        }

        /** The FAULT, or 0. */
        int learn(Bits bits) {
            int widthLess = bits.number(2);
            int entriesLess = bits.number(6);
            if (entriesLess < 0) {
                return Setup.FAULT_END;
            }
            width = widthLess + 1;
            entries = entriesLess + 1;
            for (int e = 0; e < entries && e < lengths.length; e++) {
                lengths[e] = bits.number(4);
                if (lengths[e] < 0) {
                    return Setup.FAULT_END;
                }
            }
            if (!growTree()) {
                return Setup.FAULT_TREE;
            }
            return learnValues(bits);
        }

        private int learnValues(Bits bits) {
            int told = bits.number(1);
            if (told < 0) {
                return Setup.FAULT_END;
            }
            hasValues = told == 1;
            if (!hasValues) {
                return 0;
            }
            int leastByte = bits.number(8);
            step = bits.number(8);
            adding = bits.number(1) == 1;
            int bitsLess = bits.number(3);
            if (bitsLess < 0) {
                return Setup.FAULT_END;
            }
            least = leastByte < 128 ? leastByte : leastByte - 256;
            q = greatestRoot();
            for (int i = 0; i < q && i < numbers.length; i++) {
                numbers[i] = bits.number(bitsLess + 1);
                if (numbers[i] < 0) {
                    return Setup.FAULT_END;
                }
            }
            return 0;
        }

        private int greatestRoot() {
            int root = 1;
            while (root < ENTRIES_MOST && power(root + 1) <= entries) {
                root++;
            }
            return root;
        }

        private int power(int root) {
            int value = 1;
            for (int i = 0; i < width && i < 4; i++) {
                value *= root;
            }
            return value;
        }

        /**
         * Whether the lengths make a whole tree. The least free word is always in the smallest free part that
         * is large enough: of each size at most one is free, and the smaller lie ahead of the greater.
         */
        private boolean growTree() {
            for (int i = 0; i < tree.length; i++) {
                tree[i] = 0;
            }
            for (int i = 0; i < free.length; i++) {
                free[i] = NONE;
            }
            free[0] = 0;
            forks = 1;
            int used = 0;
            for (int e = 0; e < entries && e < lengths.length; e++) {
                if (lengths[e] > 0) {
                    used++;
                    int word = takeLeastWord(lengths[e]);
                    if (word < 0 || !plant(e, word, lengths[e])) {
                        return false;
                    }
                }
            }
            return nothingIsFree() || (used == 1 && tree[0] < 0);
        }

        private int takeLeastWord(int length) {
            int part = length;
            while (part > 0 && part < free.length && free[part] == NONE) {
                part--;
            }
            if (part < 0 || length >= free.length || free[part] == NONE) {
                return NONE;
            }
            int word = free[part];
            free[part] = NONE;
            for (int i = part + 1; i <= length; i++) {
                word <<= 1;
                free[i] = word | 1;
            }
            return word;
        }

        private boolean plant(int entry, int word, int length) {
            int fork = 0;
            for (int i = length - 1; i > 0; i--) {
                int branch = 2 * fork + ((word >> i) & 1);
                if (branch < 0 || branch >= tree.length) {
                    return false;
                }
                if (tree[branch] == 0) {
                    tree[branch] = forks;
                    forks++;
                }
                fork = tree[branch];
            }
            int leaf = 2 * fork + (word & 1);
            if (leaf < 0 || leaf >= tree.length) {
                return false;
            }
            tree[leaf] = -1 - entry;
            return true;
        }

        private boolean nothingIsFree() {
            for (int i = 0; i < free.length; i++) {
                if (free[i] != NONE) {
                    return false;
                }
            }
            return true;
        }

        /** The next ENTRY; NONE at the end of the bits, or if it cannot be, which ends them. */
        int nextEntry(Bits bits) {
            int fork = 0;
            for (int i = 0; i < LENGTH_MOST; i++) {
                int next = bits.bit();
                int branch = 2 * fork + next;
                if (next < 0 || branch < 0 || branch >= tree.length) {
                    return NONE;
                }
                fork = tree[branch];
                if (fork < 0) {
                    return -1 - fork;
                }
                if (fork == 0) {
                    break;
                }
            }
            bits.close();
            return NONE;
        }

        void putValues(int entry, int[] into, int at) {
            int rest = entry;
            int ahead = 0;
            for (int i = 0; i < width && q > 0; i++) {
                int number = rest % q;
                rest /= q;
                int place = at + i;
                if (number >= 0 && number < numbers.length && place >= 0 && place < into.length) {
                    int value = numbers[number] * step + least + (adding ? ahead : 0);
                    into[place] = value;
                    ahead = value;
                }
            }
        }
    }

    /** What the first PACKET tells. */
    private static final class Setup {
        static final int FAULT_NO_PACKET = 1;
        static final int FAULT_END = 2;
        static final int FAULT_MARK = 3;
        static final int FAULT_TREE = 4;
        static final int FAULT_BOOK = 5;
        static final int FAULT_X = 6;
        static final int FAULT_CLASS = 7;
        static final int X_END = 16;
        static final int POINTS_MOST = 17;
        private static final int MARK = 86;
        private static final int BOOKS_MOST = 8;
        private static final int CLASSES_MOST = 4;

        int channels;
        int multiplier;
        boolean leaning;
        // The points of a CURVE: X 0, X 16, then the POSTS.
        int points;
        final int[] xs;
        final int[] lows;
        final int[] highs;
        final int[] pointAtX;
        private final Book[] books;
        private int bookCount;
        private int postsBook;
        private int size;
        private int classCount;
        private int classesBook;
        private final int[] bookOfClass;

        Setup() {
            xs = new int[POINTS_MOST];
            lows = new int[POINTS_MOST];
            highs = new int[POINTS_MOST];
            pointAtX = new int[X_END + 1];
            bookOfClass = new int[CLASSES_MOST];
            books = new Book[BOOKS_MOST];
            for (int i = 0; i < books.length; i++) {
                books[i] = new Book();
            }
            channels = 1;
            multiplier = 1;
            size = 1;
            classCount = 1;
        }

        /** The FAULT, or 0. */
        int learn(Bits bits) {
            int mark = bits.number(8);
            if (mark < 0) {
                return FAULT_END;
            }
            if (mark != MARK) {
                return FAULT_MARK;
            }
            channels = bits.number(1) + 1;
            int booksLess = bits.number(3);
            if (booksLess < 0) {
                return FAULT_END;
            }
            bookCount = booksLess + 1;
            int fault = 0;
            for (int i = 0; i < bookCount && fault == 0; i++) {
                fault = bookOf(i).learn(bits);
            }
            if (fault == 0) {
                fault = learnPosts(bits);
            }
            if (fault == 0) {
                fault = learnClasses(bits);
            }
            return fault == 0 ? learnLeaning(bits) : fault;
        }

        private Book bookOf(int number) {
            return books[number & (BOOKS_MOST - 1)];
        }

        private int learnPosts(Bits bits) {
            multiplier = bits.number(2) + 1;
            int posts = bits.number(4);
            postsBook = bits.number(3);
            if (postsBook < 0) {
                return FAULT_END;
            }
            if (postsBook >= bookCount) {
                return FAULT_BOOK;
            }
            points = 0;
            for (int x = 0; x < pointAtX.length; x++) {
                pointAtX[x] = NONE;
            }
            addPoint(0);
            addPoint(X_END);
            for (int i = 0; i < posts; i++) {
                int x = bits.number(5);
                if (x < 0) {
                    return FAULT_END;
                }
                if (x == 0 || x >= X_END || pointAtX[x] != NONE) {
                    return FAULT_X;
                }
                addPoint(x);
            }
            return 0;
        }

        private void addPoint(int x) {
            if (x < 0 || x > X_END || points < 0 || points >= POINTS_MOST) {
                return;
            }
            int low = 0;
            int high = 1;
            for (int p = 0; p < points; p++) {
                if (xs[p] < x && xs[p] > xs[low]) {
                    low = p;
                }
                if (xs[p] > x && xs[p] < xs[high]) {
                    high = p;
                }
            }
            xs[points] = x;
            lows[points] = low;
            highs[points] = high;
            pointAtX[x] = points;
            points++;
        }

        private int learnClasses(Bits bits) {
            int sizeNumber = bits.number(2);
            classCount = bits.number(2) + 1;
            classesBook = bits.number(3);
            if (classesBook < 0) {
                return FAULT_END;
            }
            size = 1 << sizeNumber;
            if (classesBook >= bookCount) {
                return FAULT_BOOK;
            }
            int fault = 0;
            for (int i = 0; i < classCount && i < bookOfClass.length && fault == 0; i++) {
                bookOfClass[i] = bits.number(4);
                fault = faultOfClassBook(bookOfClass[i]);
            }
            return fault;
        }

        private int faultOfClassBook(int number) {
            if (number < 0) {
                return FAULT_END;
            }
            if (number >= BOOKS_MOST) {
                return 0;
            }
            if (number >= bookCount) {
                return FAULT_BOOK;
            }
            Book book = bookOf(number);
            if (!book.hasValues || book.width < 1 || size % book.width != 0) {
                return FAULT_CLASS;
            }
            return 0;
        }

        private int learnLeaning(Bits bits) {
            leaning = false;
            if (channels == 2) {
                int told = bits.number(1);
                if (told < 0) {
                    return FAULT_END;
                }
                leaning = told == 1;
            }
            return 0;
        }

        int nextPost(Bits bits) {
            return bookOf(postsBook).nextEntry(bits);
        }

        /** Reads one CHANNEL's numbers; those that the bits do not tell stay as they are. */
        void learnNumbers(Bits bits, int[] numbers) {
            for (int at = 0; at < BLOCK; at += Math.max(1, size)) {
                int entry = bookOf(classesBook).nextEntry(bits);
                if (entry < 0 || classCount < 1) {
                    return;
                }
                int itsClass = entry % classCount;
                int number = itsClass < bookOfClass.length ? bookOfClass[itsClass] : BOOKS_MOST;
                if (number < BOOKS_MOST) {
                    learnPart(bits, bookOf(number), numbers, at);
                }
            }
        }

        private void learnPart(Bits bits, Book book, int[] numbers, int at) {
            for (int i = 0; i < size; i += Math.max(1, book.width)) {
                int entry = book.nextEntry(bits);
                if (entry < 0) {
                    return;
                }
                book.putValues(entry, numbers, at + i);
            }
        }
    }

    /** A CURVE of the SOUND that is being read. */
    private static final class Curve {
        private static final int[] RANGES = {256, 128, 86, 64};
        private static final int[] RANGE_BITS = {8, 7, 7, 6};
        private static final int TABLE_LAST = 255;

        private final int[] ys;
        private final boolean[] drawn;

        Curve() {
            ys = new int[Setup.POINTS_MOST];
            drawn = new boolean[Setup.POINTS_MOST];
        }

        /** False if the bits end ahead of it. */
        boolean learn(Setup setup, Bits bits) {
            int kind = (setup.multiplier - 1) & 3;
            int first = bits.number(RANGE_BITS[kind]);
            int last = bits.number(RANGE_BITS[kind]);
            if (last < 0) {
                return false;
            }
            int range = RANGES[kind];
            ys[0] = Math.min(first, range - 1);
            ys[1] = Math.min(last, range - 1);
            drawn[0] = true;
            drawn[1] = true;
            for (int p = 2; p < setup.points && p < ys.length; p++) {
                int v = setup.nextPost(bits);
                if (v < 0) {
                    return false;
                }
                placePost(setup, p, v, range);
            }
            return true;
        }

        private void placePost(Setup setup, int post, int v, int range) {
            int low = setup.lows[post];
            int high = setup.highs[post];
            if (low < 0 || low >= post || high < 0 || high >= post) {
                return;
            }
            int foretold = line(setup.xs[low], ys[low], setup.xs[high], ys[high], setup.xs[post]);
            drawn[post] = v != 0;
            ys[post] = foretold;
            if (v != 0) {
                drawn[low] = true;
                drawn[high] = true;
                ys[post] = Math.max(0, Math.min(range - 1, unfold(v, foretold, range)));
            }
        }

        private static int unfold(int v, int foretold, int range) {
            int up = range - foretold;
            int down = foretold;
            int room = 2 * Math.min(up, down);
            if (v >= room) {
                return up > down ? foretold + v - down : foretold + up - v - 1;
            }
            return (v & 1) == 1 ? foretold - (v + 1) / 2 : foretold + v / 2;
        }

        private static int line(int x0, int y0, int x1, int y1, int x) {
            int whole = x1 - x0;
            if (whole <= 0) {
                return y0;
            }
            int part = Math.abs(y1 - y0) * (x - x0) / whole;
            return y1 > y0 ? y0 + part : y0 - part;
        }

        /** The places in TABLE of X 0 to 15. */
        void draw(Setup setup, int[] heights) {
            int low = 0;
            for (int x = 1; x < setup.pointAtX.length; x++) {
                int high = setup.pointAtX[x];
                if (high > 0 && high < drawn.length && drawn[high]) {
                    drawLine(setup, low, high, heights);
                    low = high;
                }
            }
        }

        private void drawLine(Setup setup, int low, int high, int[] heights) {
            int x0 = setup.xs[low];
            int x1 = setup.xs[high];
            for (int x = x0; x < x1 && x >= 0 && x < heights.length; x++) {
                int height = line(x0, ys[low], x1, ys[high], x);
                heights[x] = Math.min(TABLE_LAST, height * setup.multiplier);
            }
        }
    }

    /** A CHANNEL: what the SOUND at hand tells of it, what the one ahead left, and its SAMPLES. */
    private static final class Voice {
        boolean silent;
        final int[] heights;
        final int[] numbers;
        private final long[] left;
        private final int[] samples;

        Voice() {
            silent = true;
            heights = new int[BLOCK];
            numbers = new int[BLOCK];
            left = new long[BLOCK];
            samples = new int[(Packets.COUNT_MOST - 2) * BLOCK];
        }

        void clearNumbers() {
            for (int k = 0; k < numbers.length; k++) {
                numbers[k] = 0;
            }
        }

        int sampleAt(int i) {
            return i >= 0 && i < samples.length ? samples[i] : 0;
        }

        void putSamples(int at, long[] halves) {
            for (int n = 0; n < left.length && n < halves.length; n++) {
                long value = (left[n] + halves[n]) >> 8;
                int place = at + n;
                if (place >= 0 && place < samples.length) {
                    samples[place] = (int) Math.max(-32768L, Math.min(32767L, value));
                }
            }
        }

        void keepSecondHalf(long[] halves) {
            for (int n = 0; n < left.length && BLOCK + n < halves.length; n++) {
                left[n] = halves[BLOCK + n];
            }
        }
    }

    /** The sums of cosines. */
    private static final class Sums {
        private static final int[] COSINES = {
            4096, 4091, 4076, 4052, 4017, 3973, 3920, 3857, 3784, 3703, 3612, 3513, 3406, 3290, 3166, 3035, 2896,
            2751, 2598, 2440, 2276, 2106, 1931, 1751, 1567, 1380, 1189, 995, 799, 601, 401, 201, 0
        };
        private static final int[] WINDOW = {
            15, 138, 379, 726, 1160, 1652, 2167, 2665, 3110, 3476, 3748, 3928, 4031, 4078, 4094, 4096
        };
        private static final int ROUND = 128;
        private static final int TABLE_SIZE = 256;

        final long[] halves;
        private final long[] factors;
        private final int[] table;
        private final int[] round;

        Sums() {
            halves = new long[2 * BLOCK];
            factors = new long[BLOCK];
            table = new int[TABLE_SIZE];
            table[TABLE_SIZE - 1] = 65536;
            for (int i = TABLE_SIZE - 2; i >= 0; i--) {
                table[i] = (15391 * table[i + 1] + 8192) >> 14;
            }
            round = new int[ROUND];
            for (int j = 0; j < ROUND; j++) {
                round[j] = cosine(j);
            }
        }

        private static int cosine(int j) {
            int folded = Math.min(j, ROUND - j);
            if (folded < 0 || folded > 64) {
                return 0;
            }
            return folded <= 32 ? COSINES[folded] : -COSINES[64 - folded];
        }

        /** Both halves of a voice's sound, under the window. */
        void add(Voice voice) {
            for (int k = 0; k < factors.length && k < voice.numbers.length && k < voice.heights.length; k++) {
                long height = voice.silent ? 0L : table[voice.heights[k] & (TABLE_SIZE - 1)];
                factors[k] = (voice.numbers[k] * height) >> 8;
            }
            for (int n = 0; n < halves.length; n++) {
                int place = n < BLOCK ? n : 2 * BLOCK - 1 - n;
                if (place >= 0 && place < WINDOW.length) {
                    halves[n] = (cosineSum(n) * WINDOW[place]) >> 12;
                }
            }
        }

        private long cosineSum(int n) {
            long total = 2048;
            for (int k = 0; k < factors.length; k++) {
                int j = (2 * n + 17) * (2 * k + 1);
                total += factors[k] * round[j & (ROUND - 1)];
            }
            return total >> 12;
        }
    }
}
