import java.math.BigInteger;
import java.util.ArrayList;
import java.util.Arrays;
import java.util.List;

/**
 * The document read a second time, as literally and as slowly as its words go: words as texts, sums as
 * BigInteger, every packet a row of its own. AgainstModelTest holds SongReader against it.
 */
final class SongModel {
    private static final int NONE = -1;

    /** The end of a PACKET, or an ENTRY that cannot be. */
    private static final class Early extends Exception {
        private static final long serialVersionUID = 1L;
    }

    private static final class Fault extends Exception {
        private static final long serialVersionUID = 1L;
        final int number;

        Fault(int number) {
            this.number = number;
        }
    }

    private static final class Bits {
        final List<Integer> bits = new ArrayList<>();
        int at = 0;

        Bits(List<Integer> bytes) {
            for (int b : bytes) {
                for (int i = 0; i < 8; i++) {
                    bits.add((b >> i) & 1);
                }
            }
        }

        int next(int count) throws Early {
            int value = 0;
            for (int i = 0; i < count; i++) {
                if (at >= bits.size()) {
                    throw new Early();
                }
                value += bits.get(at++) << i;
            }
            return value;
        }
    }

    private static final class Book {
        int width;
        int entries;
        int[] lengths;
        String[] words;
        boolean values;
        int least;
        int step;
        boolean adding;
        int q;
        int[] numbers;

        int entry(Bits bits) throws Early {
            String word = "";
            while (word.length() < 16) {
                word += bits.next(1);
                for (int e = 0; e < entries; e++) {
                    if (word.equals(words[e])) {
                        return e;
                    }
                }
            }
            throw new Early();
        }

        int value(int entry, int place) {
            int power = (int) Math.pow(q, place);
            int value = numbers[(entry / power) % q] * step + least;
            return adding && place > 0 ? value + value(entry, place - 1) : value;
        }
    }

    private List<Integer> tape = new ArrayList<>();
    private final int[] looks = new int[8];
    private List<List<Integer>> packets = new ArrayList<>();
    private final List<List<Integer>> samples = new ArrayList<>();
    private boolean lastPageIsLast;
    private long lastGranule;

    private int channels;
    private List<Book> books = new ArrayList<>();
    private int multiplier;
    private int postsBook;
    private List<Integer> posts = new ArrayList<>();
    private int size;
    private int classesBook;
    private List<Integer> classes = new ArrayList<>();
    private boolean leaning;

    int taped() {
        return tape.size();
    }

    int feed(int a, int b, int c, int d, int e) {
        if (tape.size() > 5980) {
            return NONE;
        }
        for (int number : new int[] {a, b, c, d, e}) {
            for (byte one : BigInteger.valueOf(number & 0xffffffffL | 1L << 32).toByteArray()) {
                tape.add(one & 255);
            }
            tape.remove(tape.size() - 5);
        }
        return tape.size();
    }

    boolean end(int n) {
        if (n < 0 || tape.size() < n) {
            return false;
        }
        tape = new ArrayList<>(tape.subList(0, n));
        return true;
    }

    boolean harm(int i, int b) {
        if (i < 0 || i >= tape.size()) {
            return false;
        }
        tape.set(i, tape.get(i) ^ (b & 255));
        return true;
    }

    int page(int from, int flags, long granule, int serial, int number, boolean open) {
        if (from < 0 || from > tape.size()) {
            return NONE;
        }
        List<Integer> body = new ArrayList<>(tape.subList(from, tape.size()));
        List<Integer> laces = new ArrayList<>();
        int rest = body.size();
        while (rest >= 255) {
            laces.add(255);
            rest -= 255;
        }
        if (open && rest != 0) {
            return NONE;
        }
        if (!open) {
            laces.add(rest);
        }
        List<Integer> made = pageOf(flags, granule, serial, number, laces, body);
        if (laces.size() > 255 || from + made.size() > 6000) {
            return NONE;
        }
        end(from);
        tape.addAll(made);
        return tape.size();
    }

    static List<Integer> pageOf(int flags, long granule, int serial, int number, List<Integer> laces, List<Integer> body) {
        List<Integer> page = new ArrayList<>(Arrays.asList(79, 103, 103, 83, 0, flags & 255));
        addLowestFirst(page, granule, 8);
        addLowestFirst(page, serial, 4);
        addLowestFirst(page, number, 4);
        addLowestFirst(page, 0, 4);
        page.add(laces.size());
        page.addAll(laces);
        page.addAll(body);
        List<Integer> crc = new ArrayList<>();
        addLowestFirst(crc, crcOf(page), 4);
        for (int i = 0; i < 4; i++) {
            page.set(22 + i, crc.get(i));
        }
        return page;
    }

    private static void addLowestFirst(List<Integer> row, long number, int bytes) {
        for (int i = 0; i < bytes; i++) {
            row.add((int) (number >>> (8 * i)) & 255);
        }
    }

    static int crcOf(List<Integer> bytes) {
        long row = 0;
        for (int b : bytes) {
            row ^= (long) b << 24;
            for (int i = 0; i < 8; i++) {
                row *= 2;
                if (row >= 1L << 32) {
                    row = (row - (1L << 32)) ^ 0x04c11db7L;
                }
            }
        }
        return (int) row;
    }

    private long number(int at, int bytes) {
        long value = 0;
        for (int i = 0; i < bytes; i++) {
            value |= (long) tape.get(at + i) << (8 * i);
        }
        return value;
    }

    private int rightPage(int at) {
        int[] start = {79, 103, 103, 83, 0};
        if (at + 27 > tape.size()) {
            return 0;
        }
        for (int i = 0; i < 5; i++) {
            if (tape.get(at + i) != start[i]) {
                return 0;
            }
        }
        int laces = tape.get(at + 26);
        int whole = 27 + laces;
        for (int i = 0; i < laces; i++) {
            if (at + 27 + i >= tape.size()) {
                return 0;
            }
            whole += tape.get(at + 27 + i);
        }
        if (at + whole > tape.size()) {
            return 0;
        }
        List<Integer> bytes = new ArrayList<>(tape.subList(at, at + whole));
        for (int i = 22; i < 26; i++) {
            bytes.set(i, 0);
        }
        return crcOf(bytes) == (int) number(at + 22, 4) ? whole : 0;
    }

    private void findPackets() {
        packets = new ArrayList<>();
        lastPageIsLast = false;
        lastGranule = 0;
        int at = 0;
        boolean first = true;
        long serial = 0;
        long numberAhead = 0;
        List<Integer> begun = null;
        while (at < tape.size()) {
            int whole = rightPage(at);
            if (whole == 0) {
                at++;
                continue;
            }
            int place = at;
            at += whole;
            if (first) {
                serial = number(place + 14, 4);
            }
            if (number(place + 14, 4) != serial) {
                looks[1]++;
                continue;
            }
            looks[0]++;
            int flags = tape.get(place + 5);
            boolean goesOn = (flags & 1) == 1;
            long itsNumber = number(place + 18, 4);
            if (first || itsNumber != (numberAhead + 1) % (1L << 32) || !goesOn) {
                begun = null;
            }
            first = false;
            numberAhead = itsNumber;
            lastPageIsLast = (flags & 4) == 4;
            lastGranule = number(place + 6, 8);
            int laces = tape.get(place + 26);
            int from = place + 27 + laces;
            boolean lost = goesOn && begun == null;
            for (int i = 0; i < laces; i++) {
                int lace = tape.get(place + 27 + i);
                if (!lost) {
                    begun = begun == null ? new ArrayList<>() : begun;
                    begun.addAll(tape.subList(from, from + lace));
                    if (lace < 255) {
                        keep(begun);
                        begun = null;
                    }
                }
                lost = lost && lace == 255;
                from += lace;
            }
        }
    }

    private void keep(List<Integer> packet) {
        if (packet.size() > 2000) {
            looks[6]++;
        } else if (packets.size() < 60) {
            packets.add(packet);
            looks[7] = Math.max(looks[7], packet.size());
        }
        looks[2] = packets.size();
    }

    private static boolean isBeginning(int word, int length, int other, int otherLength) {
        int shared = Math.min(length, otherLength);
        return word >> (length - shared) == other >> (otherLength - shared);
    }

    /** The least word that may be given, or NONE. */
    private static int leastWord(int length, int[] words, int[] lengths, int given) {
        for (int word = 0; word < 1 << length; word++) {
            boolean may = true;
            for (int e = 0; e < given && may; e++) {
                may = lengths[e] == 0 || !isBeginning(word, length, words[e], lengths[e]);
            }
            if (may) {
                return word;
            }
        }
        return NONE;
    }

    private static boolean isWholeTree(Book book) {
        int[] words = new int[book.entries];
        int used = 0;
        boolean all = true;
        book.words = new String[book.entries];
        for (int e = 0; e < book.entries && all; e++) {
            if (book.lengths[e] > 0) {
                used++;
                words[e] = leastWord(book.lengths[e], words, book.lengths, e);
                all = words[e] != NONE;
                String text = Integer.toBinaryString(words[e] | 1 << book.lengths[e]);
                book.words[e] = text.substring(1);
            }
        }
        if (all && used == 1) {
            for (int length : book.lengths) {
                if (length == 1) {
                    return true;
                }
            }
        }
        return all && leastWord(15, words, book.lengths, book.entries) == NONE;
    }

    private static Book readBook(Bits bits) throws Early, Fault {
        Book book = new Book();
        book.width = bits.next(2) + 1;
        book.entries = bits.next(6) + 1;
        book.lengths = new int[book.entries];
        for (int e = 0; e < book.entries; e++) {
            book.lengths[e] = bits.next(4);
        }
        if (!isWholeTree(book)) {
            throw new Fault(4);
        }
        book.values = bits.next(1) == 1;
        if (book.values) {
            book.least = (byte) bits.next(8);
            book.step = bits.next(8);
            book.adding = bits.next(1) == 1;
            int width = bits.next(3) + 1;
            for (int q = 1; q <= book.entries; q++) {
                if (Math.pow(q, book.width) <= book.entries) {
                    book.q = q;
                }
            }
            book.numbers = new int[book.q];
            for (int i = 0; i < book.q; i++) {
                book.numbers[i] = bits.next(width);
            }
        }
        return book;
    }

    private void readSetup() throws Fault {
        if (packets.isEmpty()) {
            throw new Fault(1);
        }
        try {
            readSetup(new Bits(packets.get(0)));
        } catch (Early early) {
            throw new Fault(2);
        }
    }

    private void readSetup(Bits bits) throws Early, Fault {
        if (bits.next(8) != 86) {
            throw new Fault(3);
        }
        channels = bits.next(1) + 1;
        int bookCount = bits.next(3) + 1;
        books = new ArrayList<>();
        for (int i = 0; i < bookCount; i++) {
            books.add(readBook(bits));
        }
        multiplier = bits.next(2) + 1;
        int postCount = bits.next(4);
        postsBook = bits.next(3);
        if (postsBook >= bookCount) {
            throw new Fault(5);
        }
        posts = new ArrayList<>();
        for (int i = 0; i < postCount; i++) {
            int x = bits.next(5);
            if (x < 1 || x > 15 || posts.contains(x)) {
                throw new Fault(6);
            }
            posts.add(x);
        }
        size = new int[] {1, 2, 4, 8}[bits.next(2)];
        int classCount = bits.next(2) + 1;
        classesBook = bits.next(3);
        if (classesBook >= bookCount) {
            throw new Fault(5);
        }
        classes = new ArrayList<>();
        for (int i = 0; i < classCount; i++) {
            int book = bits.next(4);
            if (book < 8 && book >= bookCount) {
                throw new Fault(5);
            }
            if (book < 8 && (!books.get(book).values || size % books.get(book).width != 0)) {
                throw new Fault(7);
            }
            classes.add(book);
        }
        leaning = channels == 2 && bits.next(1) == 1;
    }

    private static int lineAt(int[] low, int[] high, int x) {
        int part = Math.abs(high[1] - low[1]) * (x - low[0]) / (high[0] - low[0]);
        return high[1] > low[1] ? low[1] + part : low[1] - part;
    }

    /** The TABLE's places of one CHANNEL, or null if it is SILENT. */
    private int[] readCurve(Bits bits) throws Early {
        if (bits.next(1) == 0) {
            return null;
        }
        int r = new int[] {0, 256, 128, 86, 64}[multiplier];
        int width = new int[] {0, 8, 7, 7, 6}[multiplier];
        // Each point: X, Y, DRAWN.
        List<int[]> points = new ArrayList<>();
        points.add(new int[] {0, Math.min(r - 1, bits.next(width)), 1});
        points.add(new int[] {16, Math.min(r - 1, bits.next(width)), 1});
        for (int x : posts) {
            int v = books.get(postsBook).entry(bits);
            int[] low = null;
            int[] high = null;
            for (int[] point : points) {
                if (point[0] < x && (low == null || point[0] > low[0])) {
                    low = point;
                }
                if (point[0] > x && (high == null || point[0] < high[0])) {
                    high = point;
                }
            }
            int foretold = lineAt(low, high, x);
            int[] made = {x, foretold, 0};
            if (v != 0) {
                low[2] = 1;
                high[2] = 1;
                made[2] = 1;
                int up = r - foretold;
                int down = foretold;
                int room = 2 * Math.min(up, down);
                if (v >= room) {
                    made[1] = up > down ? foretold + v - down : foretold + up - (v + 1);
                } else if (v % 2 == 1) {
                    made[1] = foretold - (v + 1) / 2;
                } else {
                    made[1] = foretold + v / 2;
                }
                made[1] = Math.max(0, Math.min(r - 1, made[1]));
            }
            points.add(made);
        }
        points.removeIf(point -> point[2] == 0);
        points.sort((one, other) -> one[0] - other[0]);
        int[] places = new int[16];
        for (int i = 0; i + 1 < points.size(); i++) {
            for (int x = points.get(i)[0]; x < points.get(i + 1)[0]; x++) {
                places[x] = Math.min(255, multiplier * lineAt(points.get(i), points.get(i + 1), x));
            }
        }
        return places;
    }

    private void readNumbers(Bits bits, int[] numbers) throws Early {
        for (int part = 0; part < 16 / size; part++) {
            int kind = books.get(classesBook).entry(bits) % classes.size();
            if (classes.get(kind) < 8) {
                Book book = books.get(classes.get(kind));
                for (int i = 0; i < size / book.width; i++) {
                    int entry = book.entry(bits);
                    for (int place = 0; place < book.width; place++) {
                        numbers[part * size + i * book.width + place] = book.value(entry, place);
                    }
                }
            }
        }
    }

    private static long table(int place) {
        long value = 65536;
        for (int i = 254; i >= place; i--) {
            value = Math.floorDiv(15391 * value + 8192, 16384L);
        }
        return value;
    }

    private static BigInteger down(BigInteger value, int bits) {
        return value.shiftRight(bits);
    }

    private static BigInteger[] halvesOf(int[] numbers, int[] places) {
        int[] window = {15, 138, 379, 726, 1160, 1652, 2167, 2665, 3110, 3476, 3748, 3928, 4031, 4078, 4094, 4096};
        BigInteger[] factors = new BigInteger[16];
        for (int k = 0; k < 16; k++) {
            BigInteger height = BigInteger.valueOf(places == null ? 0 : table(places[k]));
            factors[k] = down(BigInteger.valueOf(numbers[k]).multiply(height), 8);
        }
        BigInteger[] halves = new BigInteger[32];
        for (int n = 0; n < 32; n++) {
            BigInteger total = BigInteger.valueOf(2048);
            for (int k = 0; k < 16; k++) {
                long cosine = Math.round(4096 * Math.cos((2 * n + 17) * (2 * k + 1) * Math.PI / 64));
                total = total.add(factors[k].multiply(BigInteger.valueOf(cosine)));
            }
            BigInteger weight = BigInteger.valueOf(window[n < 16 ? n : 31 - n]);
            halves[n] = down(down(total, 12).multiply(weight), 12);
        }
        return halves;
    }

    private void lean(int[] first, int[] second) {
        for (int k = 0; k < 16; k++) {
            int m = first[k];
            int a = second[k];
            if (m > 0 && a > 0) {
                second[k] = m - a;
            } else if (m > 0) {
                first[k] = m + a;
                second[k] = m;
            } else if (a > 0) {
                second[k] = m + a;
            } else {
                first[k] = m - a;
                second[k] = m;
            }
        }
    }

    private BigInteger[][] readSound(Bits bits) throws Early {
        int[][] places = new int[channels][];
        boolean some = false;
        for (int c = 0; c < channels; c++) {
            places[c] = readCurve(bits);
            some = some || places[c] != null;
        }
        int[][] numbers = new int[channels][16];
        try {
            for (int c = 0; c < channels; c++) {
                if (leaning ? some : places[c] != null) {
                    readNumbers(bits, numbers[c]);
                }
            }
        } catch (Early early) {
            // What is not told is 0.
        }
        if (leaning && some) {
            lean(numbers[0], numbers[1]);
        }
        BigInteger[][] halves = new BigInteger[channels][];
        for (int c = 0; c < channels; c++) {
            halves[c] = halvesOf(numbers[c], places[c]);
        }
        return halves;
    }

    private void readSounds() {
        BigInteger[][] ahead = null;
        for (int p = 1; p < packets.size(); p++) {
            BigInteger[][] halves;
            try {
                halves = readSound(new Bits(packets.get(p)));
            } catch (Early early) {
                looks[4]++;
                continue;
            }
            looks[3]++;
            for (int c = 0; c < channels && ahead != null; c++) {
                for (int n = 0; n < 16; n++) {
                    long value = down(ahead[c][16 + n].add(halves[c][n]), 8).longValueExact();
                    samples.get(c).add((int) Math.max(-32768, Math.min(32767, value)));
                }
            }
            ahead = halves;
        }
    }

    int read() {
        Arrays.fill(looks, 0);
        samples.clear();
        findPackets();
        tape.clear();
        try {
            readSetup();
        } catch (Fault fault) {
            return -fault.number;
        }
        looks[5] = channels;
        for (int c = 0; c < channels; c++) {
            samples.add(new ArrayList<>());
        }
        readSounds();
        if (lastPageIsLast && lastGranule >= 0 && lastGranule < samples.get(0).size()) {
            for (int c = 0; c < channels; c++) {
                samples.set(c, new ArrayList<>(samples.get(c).subList(0, (int) lastGranule)));
            }
        }
        return samples.get(0).size();
    }

    int sample(int channel, int i) {
        if (channel < 0 || channel >= samples.size() || i < 0 || i >= samples.get(channel).size()) {
            return 0;
        }
        return samples.get(channel).get(i);
    }

    int look(int what) {
        return what < 0 || what > 7 ? NONE : looks[what];
    }

    int sum(int channel) {
        BigInteger total = BigInteger.ZERO;
        for (int i = 0; channel >= 0 && channel < samples.size() && i < samples.get(channel).size(); i++) {
            total = total.add(BigInteger.valueOf(samples.get(channel).get(i)).multiply(BigInteger.valueOf(i + 1)));
        }
        return total.intValue();
    }
}
