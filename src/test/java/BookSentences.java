import java.util.Arrays;
import java.util.Random;

/** The sentences of "2. SETUP" about a BOOK: its LENGTHS, words and VALUES. */
final class BookSentences extends Sentences {
    BookSentences(Doc doc) {
        super(doc);
    }

    @Override
    void hold() {
        widthAndEntries();
        lengths();
        valueNumbers();
        greatestRoot();
        words();
        wholeTree();
        justOne();
        values();
        adding();
    }

    /** A SETUP whose BOOK 0 is the one that is tested; BOOK 1, of one ENTRY, tells CLASS 0 by a 0 each time. */
    private static SongWriter setupOf(int width, int[] lengths, int least, int step, boolean adding, int bits, int[] numbers) {
        int sizeNumber = width == 4 ? 2 : width - 1;
        return new SongWriter().start(1, 2).lengths(width, lengths).values(least, step, adding, bits, numbers)
            .book(1, 1).posts(1, 1).classes(sizeNumber, 1, 0);
    }

    private static SongWriter full() {
        return new SongWriter().put(1, 1).put(255, 8).put(255, 8);
    }

    private static int treeFault(int... lengths) {
        return Songs.answer(new SongWriter().start(1, 1).book(1, lengths).posts(1, 0).classes(0, 0, 8).bytes());
    }

    private static int root(int entries, int width) {
        int root = 1;
        while (Math.pow(root + 1, width) <= entries) {
            root++;
        }
        return root;
    }

    private static int[] someNumbers(int count, int bits) {
        Random random = new Random(count + 100 * bits);
        int[] numbers = new int[count];
        for (int i = 0; i < count; i++) {
            numbers[i] = random.nextInt(1 << bits);
        }
        return numbers;
    }

    private void widthAndEntries() {
        sentence("A BOOK: WIDTH less 1 in two bits; ENTRIES less 1 in six;");
        for (int entries = 1; entries <= 64; entries++) {
            int[] lengths = Songs.lengths(entries);
            String[] words = Songs.words(lengths);
            int[] numbers = someNumbers(entries, 6);
            SongWriter setup = setupOf(1, lengths, 3, 20, false, 6, numbers);
            // The first, the last, and others between.
            SongWriter sound = full();
            long[] due = new long[16];
            for (int k = 0; k < 16; k++) {
                int e = k == 0 ? 0 : k == 1 ? entries - 1 : k * 37 % entries;
                sound.word("0").word(words[e]);
                due[k] = numbers[e] * 20 + 3;
            }
            dueNumbers(entries + " ENTRIES", Songs.played(setup, sound), 0, due);
        }
        for (int width = 1; width <= 4; width++) {
            for (int entries : new int[] {1, 2, 63, 64}) {
                SongWriter setup = new SongWriter().start(1, 1).book(width, Songs.lengths(entries)).posts(1, 0).classes(0, 0, 8);
                due("WIDTH " + width + " of " + entries, Songs.answer(setup.bytes()), 0);
            }
        }
    }

    private void lengths() {
        sentence("of each ENTRY its LENGTH in four (0: not used);");
        for (int depth = 1; depth <= 15; depth++) {
            // 1, 2, .. up to this one twice, with one that is not used ahead of each.
            int[] lengths = new int[2 * depth + 2];
            int[] numbers = new int[2 * depth + 2];
            for (int i = 0; i <= depth; i++) {
                lengths[2 * i + 1] = Math.min(i + 1, depth);
                numbers[2 * i] = 63;
                numbers[2 * i + 1] = i + 1;
            }
            SongWriter sound = full();
            long[] due = new long[16];
            for (int k = 0; k < 16; k++) {
                int which = k % (depth + 1);
                // The words of 1, 2, 3 .. are 0, 10, 110 ..; the last one of all has 1s alone.
                sound.word("0").word("1".repeat(Math.min(which, depth))).word(which < depth ? "0" : "");
                due[k] = 100 * (which + 1);
            }
            SongWriter setup = setupOf(1, lengths, 0, 100, false, 6, numbers);
            dueNumbers("LENGTHS up to " + depth, Songs.played(setup, sound), 0, due);
        }
        due("none used", treeFault(0), -4);
        due("0 of two", treeFault(0, 1), 0);
    }

    private void valueNumbers() {
        sentence("a bit: 1: LEAST, eight (with sign: 128 to 255 are - 128 to - 1), STEP, eight, ADDING, one, BITS less 1, three,");
        int[] edges = {0, 1, 2, 126, 127, 128, 129, 254, 255};
        for (int least : edges) {
            for (int step : edges) {
                int[] numbers = {3, 40};
                SongWriter setup = setupOf(1, new int[] {1, 1}, least, step, false, 8, numbers);
                SongWriter sound = full();
                long[] due = new long[16];
                for (int k = 0; k < 16; k++) {
                    sound.word("0").word(k % 5 == 0 ? "1" : "0");
                    due[k] = numbers[k % 5 == 0 ? 1 : 0] * step + (least < 128 ? least : least - 256);
                }
                dueNumbers("LEAST " + least + ", STEP " + step, Songs.played(setup, sound), 0, due);
            }
        }
        for (int bits = 1; bits <= 8; bits++) {
            int[] numbers = {(1 << bits) - 1, 0, 1, 1 << bits - 1};
            SongWriter setup = setupOf(1, new int[] {2, 2, 2, 2}, 0, 100, false, bits, numbers);
            SongWriter sound = full();
            long[] due = new long[16];
            String[] words = {"00", "01", "10", "11"};
            for (int k = 0; k < 16; k++) {
                sound.word("0").word(words[k * 3 % 4]);
                due[k] = 100 * numbers[k * 3 % 4];
            }
            dueNumbers("BITS " + bits, Songs.played(setup, sound), 0, due);
        }
        // A 0: nothing of it comes; the POSTS' numbers follow at once.
        due("without VALUES", treeFault(1, 1), 0);
    }

    private void greatestRoot() {
        sentence("then as many numbers of so many BITS as the greatest q with q to the WIDTH not above ENTRIES.");
        for (int width = 1; width <= 4; width++) {
            for (int entries = 1; entries <= 64; entries++) {
                int[] lengths = Songs.lengths(entries);
                int q = root(entries, width);
                String what = "q " + q + " of WIDTH " + width + ", ENTRIES " + entries;
                int[] ones = new int[q];
                Arrays.fill(ones, 255);
                // BOOK 0 is only there to be read over; BOOK 1, behind it, tells the numbers.
                SongWriter over = new SongWriter().start(1, 2).lengths(width, lengths).values(0, 0, false, 8, ones)
                    .lengths(1, 1).values(100, 100, false, 4, 9).posts(1, 1).classes(0, 1, 1);
                long[] thousand = new long[16];
                Arrays.fill(thousand, 1000);
                dueNumbers(what, Songs.played(over, full().word(Songs.zeros(32))), 0, thousand);
                if (width != 3) {
                    dueEntries(what, width, lengths, q, false);
                }
            }
        }
        int[] roots = {root(3, 2), root(4, 2), root(8, 2), root(9, 2), root(63, 2), root(64, 2), root(7, 3), root(8, 3),
            root(63, 3), root(64, 3), root(15, 4), root(16, 4), root(64, 4)};
        due("the roots", Arrays.equals(roots, new int[] {1, 2, 2, 3, 7, 8, 1, 2, 3, 4, 1, 2, 2}), true);
    }

    /** Sixteen numbers of a BOOK of any WIDTH that divides a SIZE: its first and last ENTRY and others. */
    private void dueEntries(String what, int width, int[] lengths, int q, boolean adding) {
        int[] numbers = someNumbers(q, 6);
        SongWriter setup = setupOf(width, lengths, -7, 30, adding, 6, numbers);
        String[] words = Songs.words(lengths);
        SongWriter sound = full();
        long[] due = new long[16];
        for (int i = 0; i < 16 / width; i++) {
            int e = i == 0 ? lengths.length - 1 : i == 1 ? 0 : i * 41 % lengths.length;
            sound.word("0").word(words[e]);
            long ahead = 0;
            int power = 1;
            for (int place = 0; place < width; place++) {
                long value = numbers[e / power % q] * 30L - 7 + (adding ? ahead : 0);
                due[i * width + place] = value;
                ahead = value;
                power *= q;
            }
        }
        dueNumbers(what + (adding ? ", ADDING" : ""), Songs.played(setup, sound), 0, due);
    }

    private void words() {
        sentence("Code words: to the used ENTRIES, in their order, each the least word of its LENGTH (as bits that are read first, "
            + "a 0 less than a 1) of which no word given is a beginning, nor it of one.");
        dueWords(new int[] {1, 1}, "0", "1");
        dueWords(new int[] {1, 2, 2}, "0", "10", "11");
        dueWords(new int[] {2, 1, 2}, "00", "1", "01");
        dueWords(new int[] {2, 2, 1}, "00", "01", "1");
        dueWords(new int[] {2, 1, 3, 3}, "00", "1", "010", "011");
        dueWords(new int[] {3, 1, 2, 3}, "000", "1", "01", "001");
        dueWords(new int[] {3, 1, 3, 2}, "000", "1", "001", "01");
        dueWords(new int[] {1, 3, 2, 3}, "0", "100", "11", "101");
        dueWords(new int[] {4, 2, 4, 1, 3}, "0000", "01", "0001", "1", "001");
        dueWords(new int[] {3, 2, 3, 2, 2}, "000", "01", "001", "10", "11");
        dueWords(new int[] {2, 4, 4, 4, 4, 2, 3, 3}, "00", "0100", "0101", "0110", "0111", "10", "110", "111");
        dueWords(new int[] {0, 2, 0, 1, 2, 0}, null, "00", null, "1", "01", null);
        dueWords(new int[] {15, 1, 2, 3, 4, 5, 6, 7, 8, 9, 10, 11, 12, 13, 14, 15}, "000000000000000", "1", "01", "001",
            "0001", "00001", "000001", "0000001", "00000001", "000000001", "0000000001", "00000000001", "000000000001",
            "0000000000001", "00000000000001", "000000000000001");
        Random random = new Random(3);
        for (int round = 0; round < 200; round++) {
            int[] lengths = Songs.lengths(2 + random.nextInt(20));
            for (int i = 0; i + 1 < lengths.length && round % 2 == 0; i++) {
                // Two of a LENGTH become one less deep and two deeper, if they are the whole of a part: the sum stays.
                if (lengths[i] == lengths[i + 1] && lengths[i] > 1 && i + 2 < lengths.length && lengths[i + 2] == lengths[i]) {
                    lengths[i]--;
                    lengths[i + 1]++;
                    lengths[i + 2]++;
                    i += 2;
                }
            }
            for (int i = lengths.length - 1; i > 0; i--) {
                int j = random.nextInt(i + 1);
                int kept = lengths[i];
                lengths[i] = lengths[j];
                lengths[j] = kept;
            }
            dueWords(lengths, Songs.words(lengths));
        }
    }

    private void dueWords(int[] lengths, String... words) {
        due("the words of " + Arrays.toString(lengths), Arrays.equals(words, Songs.words(lengths)), true);
        int[] numbers = new int[lengths.length];
        for (int e = 0; e < numbers.length; e++) {
            numbers[e] = 1 + 3 * e;
        }
        SongWriter setup = setupOf(1, lengths, 0, 50, false, 6, numbers);
        for (int first = 0; first < lengths.length; first += 16) {
            SongWriter sound = full();
            long[] due = new long[16];
            int k = 0;
            for (int e = first; e < lengths.length && k < 16; e++) {
                if (words[e] != null) {
                    sound.word("0").word(words[e]);
                    due[k] = 50 * numbers[e];
                    k++;
                }
            }
            // What is not told is 0: a 1 in the CLASSES' BOOK ends it.
            dueNumbers("the words of " + Arrays.toString(lengths), Songs.played(setup, sound.word("1")), 0, due);
        }
    }

    private void wholeTree() {
        sentence("It is a whole tree, if all have words, and no further word of 15 bits could be given;");
        due("two of 1", treeFault(1, 1), 0);
        due("three of 1", treeFault(1, 1, 1), -4);
        due("no word for a 2", treeFault(1, 1, 2), -4);
        due("no word for a 15", treeFault(1, 1, 15), -4);
        due("no word for a 1, a 15 is given", treeFault(15, 1, 1), -4);
        due("no word for the last of four 2s and one", treeFault(2, 2, 2, 2, 2), -4);
        due("2, 1, 2 and one more", treeFault(2, 1, 2, 2), -4);
        for (int depth = 1; depth <= 15; depth++) {
            // 1, 2, .. depth leaves one word of that LENGTH free: the smallest gap is one of 15.
            int[] gap = new int[depth];
            for (int i = 0; i < depth; i++) {
                gap[i] = i + 1;
            }
            due("a gap of LENGTH " + depth, treeFault(gap), depth == 1 ? 0 : -4);
            int[] whole = Arrays.copyOf(gap, depth + 1);
            whole[depth] = depth;
            due("no gap at LENGTH " + depth, treeFault(whole), 0);
            int[] more = Arrays.copyOf(whole, depth + 2);
            more[depth + 1] = 15;
            due("one more behind LENGTH " + depth, treeFault(more), -4);
            int[] turned = new int[depth + 1];
            for (int i = 0; i <= depth; i++) {
                turned[i] = whole[depth - i];
            }
            due("from LENGTH " + depth + " up", treeFault(turned), 0);
            turned[0] = Math.max(0, turned[0] - 1);
            due("from LENGTH " + depth + " up, one of them shorter", treeFault(turned), depth == 1 ? 0 : -4);
        }
        manyEntries();
    }

    private void manyEntries() {
        int[] lengths = new int[64];
        Arrays.fill(lengths, 6);
        due("64 of 6", treeFault(lengths), 0);
        for (int at = 0; at < 64; at++) {
            for (int other : new int[] {0, 5, 7, 15}) {
                int[] one = lengths.clone();
                one[at] = other;
                // With a 5 in its place there are no words for all; else there is a gap.
                due("ENTRY " + at + " of " + other, treeFault(one), -4);
            }
        }
        for (int length = 1; length <= 15; length++) {
            for (int count = 1; count <= 64; count++) {
                int[] same = new int[count];
                Arrays.fill(same, length);
                boolean whole = length < 7 && count == 1 << length || count == 1 && length == 1;
                due(count + " of " + length, treeFault(same), whole ? 0 : -4);
            }
        }
        // Nearly all the words are there, but one of 15: 14 of each LENGTH would not do.
        int[] deep = new int[64];
        Arrays.fill(deep, 15);
        for (int at = 0; at < 64; at++) {
            int[] one = deep.clone();
            one[at] = 1;
            due("64 of 15, one of them of 1, at " + at, treeFault(one), -4);
        }
    }

    private void justOne() {
        sentence("or if just one is used, with LENGTH 1.");
        for (int entries = 1; entries <= 64; entries++) {
            for (int at = 0; at < entries; at += entries < 8 ? 1 : 7) {
                int[] lengths = new int[entries];
                lengths[at] = 1;
                due("ENTRY " + at + " of " + entries, treeFault(lengths), 0);
            }
        }
        for (int length = 2; length <= 15; length++) {
            due("one of LENGTH " + length, treeFault(length), -4);
            due("one of LENGTH " + length + " among others", treeFault(0, length, 0), -4);
            due("one of 1 and one of " + length, treeFault(1, length), -4);
            due("one of " + length + " and one of 1", treeFault(length, 1), -4);
        }
        due("none of one", treeFault(0), -4);
        due("none of 64", treeFault(new int[64]), -4);
        // The one that is read is that one: a 0 tells it.
        int[] lengths = new int[40];
        lengths[29] = 1;
        SongWriter setup = setupOf(1, lengths, 5, 10, false, 8, someNumbers(40, 8));
        long[] due = new long[16];
        Arrays.fill(due, 10 * someNumbers(40, 8)[29] + 5);
        dueNumbers("ENTRY 29 alone", Songs.played(setup, full().word(Songs.zeros(32))), 0, due);
    }

    private void values() {
        sentence("VALUE of ENTRY e at place i (0 to WIDTH - 1): the number at (e by q to the i, rounded down) modulo q, "
            + "times STEP, and LEAST;");
        // WIDTH 2, nine ENTRIES, q 3: by hand.
        int[] firsts = {0, 1, 2, 0, 1, 2, 0, 1, 2};
        int[] seconds = {0, 0, 0, 1, 1, 1, 2, 2, 2};
        int[] numbers = {10, 40, 90};
        dueHandValues(9, numbers, firsts, seconds);
        // Six ENTRIES, q 2: those from 4 on go round.
        dueHandValues(6, new int[] {10, 40}, new int[] {0, 1, 0, 1, 0, 1}, new int[] {0, 0, 1, 1, 0, 0});
        // Three ENTRIES, q 1: all alike.
        dueHandValues(3, new int[] {77}, new int[] {0, 0, 0}, new int[] {0, 0, 0});
        for (int width : new int[] {1, 2, 4}) {
            for (int entries : new int[] {1, 2, 15, 16, 17, 63, 64}) {
                dueEntries("WIDTH " + width + ", ENTRIES " + entries, width, Songs.lengths(entries), root(entries, width), false);
            }
        }
    }

    private void dueHandValues(int entries, int[] numbers, int[] firsts, int[] seconds) {
        int[] lengths = Songs.lengths(entries);
        String[] words = Songs.words(lengths);
        for (int e = 0; e < entries; e++) {
            SongWriter setup = setupOf(2, lengths, -20, 7, false, 8, numbers);
            Reader x = Songs.played(setup, full().word("0").word(words[e]).word("1"));
            dueNumbers("ENTRY " + e + " of " + entries, x, 0, numbers[firsts[e]] * 7 - 20, numbers[seconds[e]] * 7 - 20);
        }
    }

    private void adding() {
        sentence("with ADDING and the VALUE at place i - 1.");
        for (int width : new int[] {1, 2, 4}) {
            for (int entries : new int[] {1, 2, 15, 16, 17, 63, 64}) {
                dueEntries("WIDTH " + width + ", ENTRIES " + entries, width, Songs.lengths(entries), root(entries, width), true);
            }
        }
        // By hand: WIDTH 4, ENTRY 6 of 16, q 2: the numbers at 0, 1, 1, 0. Of the next ENTRY place 0 has nothing ahead.
        int[] lengths = Songs.lengths(16);
        SongWriter setup = setupOf(4, lengths, 1, 10, true, 4, new int[] {2, 5});
        Reader x = Songs.played(setup, full().word("0").word("0110").word("0").word("0001").word("1"));
        dueNumbers("ENTRIES 6 and 1", x, 0, 21, 72, 123, 144, 51, 72, 93, 114);
        // The greatest and the least VALUES that there are.
        SongWriter most = setupOf(4, new int[] {1}, 127, 255, true, 8, new int[] {255});
        SongWriter low = new SongWriter().put(1, 1).put(215, 8).put(215, 8).word(Songs.zeros(8));
        int[] flat = new int[16];
        Arrays.fill(flat, 215);
        long[] due = new long[16];
        for (int k = 0; k < 16; k++) {
            due[k] = (255 * 255 + 127) * (k % 4 + 1);
        }
        dueFactors("the greatest VALUES", Songs.played(most, low), 0, Songs.factors(due, flat));
        SongWriter least = setupOf(4, new int[] {1}, -128, 255, true, 8, new int[] {0});
        for (int k = 0; k < 16; k++) {
            due[k] = -128 * (k % 4 + 1);
        }
        dueFactors("the least VALUES", Songs.played(least, full().word(Songs.zeros(8))), 0, Songs.factors(due));
    }
}
