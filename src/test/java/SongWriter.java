import java.util.ArrayList;
import java.util.Arrays;
import java.util.List;

/** Bits one after the other, as a PACKET has them, and the parts of a SETUP in them. */
final class SongWriter {
    private final List<Integer> bytes = new ArrayList<>();
    private int bits = 0;

    SongWriter put(int number, int count) {
        for (int i = 0; i < count; i++) {
            if (bits % 8 == 0) {
                bytes.add(0);
            }
            int last = bytes.size() - 1;
            bytes.set(last, bytes.get(last) | ((number >> i) & 1) << (bits % 8));
            bits++;
        }
        return this;
    }

    /** Bits as a text, the first first. */
    SongWriter word(String word) {
        for (char sign : word.toCharArray()) {
            put(sign - '0', 1);
        }
        return this;
    }

    SongWriter start(int channels, int books) {
        return put(86, 8).put(channels - 1, 1).put(books - 1, 3);
    }

    SongWriter lengths(int width, int... lengths) {
        put(width - 1, 2).put(lengths.length - 1, 6);
        for (int length : lengths) {
            put(length, 4);
        }
        return this;
    }

    /** A BOOK without VALUES. */
    SongWriter book(int width, int... lengths) {
        return lengths(width, lengths).put(0, 1);
    }

    /** What comes behind a BOOK's LENGTHS if it has VALUES. */
    SongWriter values(int least, int step, boolean adding, int width, int... numbers) {
        put(1, 1).put(least & 255, 8).put(step, 8).put(adding ? 1 : 0, 1).put(width - 1, 3);
        for (int number : numbers) {
            put(number, width);
        }
        return this;
    }

    SongWriter posts(int multiplier, int book, int... xs) {
        put(multiplier - 1, 2).put(xs.length, 4).put(book, 3);
        for (int x : xs) {
            put(x, 5);
        }
        return this;
    }

    /** SIZE as its number: 0 to 3 for 1, 2, 4, 8. */
    SongWriter classes(int sizeNumber, int book, int... booksOfClasses) {
        put(sizeNumber, 2).put(booksOfClasses.length - 1, 2).put(book, 3);
        for (int number : booksOfClasses) {
            put(number, 4);
        }
        return this;
    }

    int bits() {
        return bits;
    }

    List<Integer> bytes() {
        return new ArrayList<>(bytes);
    }

    /** Puts any bytes behind a reader's TAPE by the calls that there are. */
    static void lay(SongReader reader, List<Integer> bytes) {
        for (int[] call : feeds(bytes)) {
            reader.feed(call[0], call[1], call[2], call[3], call[4]);
            if (call[5] < 20) {
                reader.end(reader.taped() - 20 + call[5]);
            }
        }
    }

    /** The numbers for feed(), and how many of the twenty bytes are meant. */
    static List<int[]> feeds(List<Integer> bytes) {
        List<int[]> calls = new ArrayList<>();
        for (int at = 0; at < bytes.size(); at += 20) {
            int[] call = new int[6];
            call[5] = Math.min(20, bytes.size() - at);
            for (int i = 0; i < call[5]; i++) {
                call[i / 4] |= bytes.get(at + i) << (24 - 8 * (i % 4));
            }
            calls.add(call);
        }
        return calls;
    }

    static List<Integer> row(Integer... bytes) {
        return new ArrayList<>(Arrays.asList(bytes));
    }

    static List<Integer> many(int count, int value) {
        List<Integer> made = new ArrayList<>();
        for (int i = 0; i < count; i++) {
            made.add(value);
        }
        return made;
    }
}
