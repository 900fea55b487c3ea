import java.util.ArrayList;
import java.util.Arrays;
import java.util.List;

/** The sentences of "2. SETUP" about what the first PACKET tells, one number after the other. */
final class SetupSentences extends Sentences {
    SetupSentences(Doc doc) {
        super(doc);
    }

    @Override
    void hold() {
        firstPacket();
        mark();
        channels();
        books();
        multiplier();
        posts();
        size();
        classes();
        classBooks();
        leaning();
        whatComesBehind();
    }

    private void firstPacket() {
        sentence("SETUP: the first PACKET.");
        due("the first is none", Songs.answer(Songs.silence(), Songs.plainSetup(1), Songs.silence()), -3);
        due("the second is no other", Songs.answer(Songs.plainSetup(1), Songs.plainSetup(2), Songs.silence()), 16);
        // The first that counts: one too long, one whose beginning is lost, and another SERIAL's do not.
        Reader x = new Reader();
        Songs.layPage(x, 0, 0, 0, SongWriter.many(2001, 0));
        Songs.layOpenPage(x, 0, 1, 1);
        Songs.layLaces(x, 1, 3, 0, 4);
        x.page(x.taped(), 0, 0, 2, 0, false);
        Songs.layPage(x, 0, 0, 4, Songs.plainSetup(2));
        Songs.layPage(x, 0, 0, 5, Songs.silence());
        Songs.layPage(x, 0, 0, 6, Songs.silence());
        due("the first that counts", x.read(), 16);
        due("the first that counts: CHANNELS", x.look(5), 2);
    }

    private void mark() {
        sentence("Eight bits: 86;");
        for (int value = 0; value < 256; value++) {
            List<Integer> setup = Songs.plainSetup(1);
            setup.set(0, value);
            due("eight bits: " + value, Songs.answer(setup), value == 86 ? 0 : -3);
        }
    }

    private void channels() {
        sentence("CHANNELS less 1 in one;");
        for (int channels = 1; channels <= 2; channels++) {
            Reader x = Songs.laid(Songs.plainSetup(channels));
            due("read", x.read(), 0);
            due("CHANNELS", x.look(5), channels);
        }
    }

    /** A SETUP of so many BOOKS, of which the one with this number is that of POSTS, CLASSES and the one CLASS. */
    private static SongWriter manyBooks(int count, int number) {
        SongWriter setup = new SongWriter().start(1, count);
        for (int i = 0; i < count; i++) {
            // Each with another VALUE: 100 and so many times 10.
            setup.lengths(1, 1).values(100, 10, false, 4, i);
        }
        return setup.posts(1, number).classes(0, number, number);
    }

    private static SongWriter fullSound() {
        return new SongWriter().put(1, 1).put(255, 8).put(255, 8).word(Songs.zeros(200));
    }

    private static long[] sixteen(long number) {
        long[] numbers = new long[16];
        Arrays.fill(numbers, number);
        return numbers;
    }

    private void books() {
        sentence("BOOKS less 1 in three; the BOOKS;");
        for (int count = 1; count <= 8; count++) {
            for (int number = 0; number < count; number++) {
                Reader x = Songs.played(manyBooks(count, number), fullSound());
                dueNumbers("BOOK " + number + " of " + count, x, 0, sixteen(100 + 10 * number));
            }
            if (count < 8) {
                due("BOOK " + count + " of " + count, Songs.answer(manyBooks(count, count).bytes()), -5);
            }
        }
    }

    private void multiplier() {
        sentence("MULTIPLIER less 1 in two;");
        int[] ys = {0, 250, 125, 83, 62};
        int[] places = {0, 250, 250, 249, 248};
        for (int m = 1; m <= 4; m++) {
            SongWriter setup = new SongWriter().start(1, 1).lengths(1, 1).values(100, 100, false, 4, 9).posts(m, 0).classes(0, 0, 0);
            SongWriter sound = new SongWriter().put(1, 1).put(ys[m], Songs.RANGE_BITS[m]).put(ys[m], Songs.RANGE_BITS[m])
                .word(Songs.zeros(32));
            int[] flat = new int[16];
            Arrays.fill(flat, places[m]);
            dueFactors("MULTIPLIER " + m, Songs.played(setup, sound), 0, Songs.factors(sixteen(1000), flat));
        }
    }

    private void posts() {
        sentence("POSTS in four, the POSTS' BOOK in three, then of each POST its X in five (1 to 15, no two alike);");
        for (int count = 0; count <= 15; count++) {
            // From the highest X down; each is told by V 2: 1 above what is foretold.
            int[] xs = new int[count];
            for (int i = 0; i < count; i++) {
                xs[i] = 15 - i;
            }
            SongWriter setup = new SongWriter().start(1, 2).lengths(1, 1).values(100, 100, false, 4, 9).book(1, 2, 2, 2, 2)
                .posts(1, 1, xs).classes(0, 0, 0);
            SongWriter sound = new SongWriter().put(1, 1).put(200, 8).put(200, 8);
            List<int[]> points = new ArrayList<>();
            points.add(Songs.point(16, 200));
            for (int x : xs) {
                sound.word("10");
                points.add(0, Songs.point(x, Songs.line(Songs.point(0, 200), points.get(0), x) + 1));
            }
            points.add(0, Songs.point(0, 200));
            Reader x = Songs.played(setup, sound.word(Songs.zeros(32)));
            int[] places = Songs.places(1, points.toArray(new int[0][]));
            dueFactors(count + " POSTS", x, 0, Songs.factors(sixteen(1000), places));
        }
        for (int x = 0; x < 32; x++) {
            due("X " + x, Songs.answer(postsAt(x)), x >= 1 && x <= 15 ? 0 : -6);
            for (int other = 1; other <= 15; other++) {
                boolean may = x >= 1 && x <= 15 && x != other;
                due("X " + x + " behind " + other, Songs.answer(postsAt(other, x)), may ? 0 : -6);
            }
        }
        due("alike, far apart", Songs.answer(postsAt(1, 2, 3, 4, 5, 6, 7, 8, 9, 10, 11, 12, 13, 14, 1)), -6);
        due("fifteen", Songs.answer(postsAt(8, 2, 3, 15, 5, 6, 7, 1, 9, 10, 11, 12, 13, 14, 4)), 0);
    }

    private static List<Integer> postsAt(int... xs) {
        return new SongWriter().start(1, 1).book(1, 1, 1).posts(1, 0, xs).classes(0, 0, 8).bytes();
    }

    private void size() {
        sentence("SIZE in two (1, 2, 4, 8);");
        for (int number = 0; number < 4; number++) {
            int size = 1 << number;
            // The parts are by turns of a CLASS with a BOOK and one without.
            SongWriter setup = new SongWriter().start(1, 2).lengths(1, 1, 1).values(1, 100, false, 3, 7, 3).book(1, 1, 1)
                .posts(1, 0).classes(number, 1, 0, 15);
            SongWriter sound = new SongWriter().put(1, 1).put(255, 8).put(255, 8);
            long[] numbers = new long[16];
            for (int part = 0; part < 16 / size; part++) {
                sound.word(part % 2 == 0 ? "0" : "1");
                for (int i = 0; i < size && part % 2 == 0; i++) {
                    int k = part * size + i;
                    sound.word(k % 3 == 0 ? "0" : "1");
                    numbers[k] = k % 3 == 0 ? 701 : 301;
                }
            }
            dueNumbers("SIZE " + size, Songs.played(setup, sound), 0, numbers);
        }
    }

    private void classes() {
        sentence("CLASSES less 1 in two;");
        for (int count = 1; count <= 4; count++) {
            int[] books = new int[count];
            SongWriter setup = new SongWriter().start(1, 5);
            for (int i = 0; i < 4; i++) {
                setup.lengths(1, 1).values(100, 10, false, 4, i);
                books[i % count] = i % count;
            }
            setup.book(1, 2, 2, 2, 2).posts(1, 4).classes(0, 4, books);
            SongWriter sound = new SongWriter().put(1, 1).put(255, 8).put(255, 8);
            long[] numbers = new long[16];
            for (int k = 0; k < 16; k++) {
                sound.word(new String[] {"00", "01", "10", "11"}[k * 7 % 4]).word("0");
                numbers[k] = 100 + 10 * (k * 7 % 4 % count);
            }
            dueNumbers(count + " CLASSES", Songs.played(setup, sound), 0, numbers);
        }
    }

    private void classBooks() {
        sentence("the CLASSES' BOOK in three, of each CLASS the number of its BOOK in four (8 or more: none);");
        for (int number = 0; number < 16; number++) {
            // CLASS 0 has no BOOK, CLASS 1 this one: eight BOOKS, each with another VALUE.
            SongWriter setup = new SongWriter().start(1, 8);
            for (int i = 0; i < 8; i++) {
                setup.lengths(1, 1, 1).values(100, 10, false, 4, i, i);
            }
            setup.posts(1, 0).classes(0, number % 8, 8, number);
            // CLASS 1, ENTRY 1, CLASS 1, ENTRY 1 .. : without a BOOK each bit is a CLASS.
            SongWriter sound = new SongWriter().put(1, 1).put(255, 8).put(255, 8).word("1".repeat(63));
            long[] numbers = sixteen(number < 8 ? 100 + 10 * number : 0);
            dueNumbers("a CLASS of BOOK " + number, Songs.played(setup, sound), 0, numbers);
        }
        for (int books = 1; books <= 8; books++) {
            for (int number = 0; number < 16; number++) {
                SongWriter setup = manyBooks(books, 0);
                SongWriter one = new SongWriter().start(1, books);
                for (int i = 0; i < books; i++) {
                    one.lengths(1, 1).values(100, 10, false, 4, i);
                }
                one.posts(1, 0).classes(0, 0, 0, number);
                due("CLASS 0 of BOOK 0 of " + books, Songs.answer(setup.bytes()), 0);
                due("CLASS 1 of BOOK " + number + " of " + books, Songs.answer(one.bytes()), number < books || number >= 8 ? 0 : -5);
            }
        }
    }

    private void leaning() {
        sentence("of two CHANNELS one bit: LEANING.");
        for (int leaning = 0; leaning < 2; leaning++) {
            SongWriter setup = new SongWriter().start(2, 1).lengths(1, 1).values(100, 100, false, 4, 9).posts(1, 0)
                .classes(0, 0, 0).put(leaning, 1);
            SongWriter sound = new SongWriter().put(1, 1).put(255, 8).put(255, 8).put(1, 1).put(255, 8).put(255, 8)
                .word(Songs.zeros(64));
            Reader x = Songs.played(setup, sound);
            dueNumbers("LEANING " + leaning, x, 0, sixteen(1000));
            dueNumbers("LEANING " + leaning, x, 1, sixteen(leaning == 1 ? 0 : 1000));
        }
        // Of one CHANNEL there is none, and nothing leans, whatever comes there, or came in the SETUP before.
        Reader x = new Reader();
        for (int round = 0; round < 2; round++) {
            for (int channels = 2; channels >= 1; channels--) {
                SongWriter setup = new SongWriter().start(channels, 1).lengths(1, 1).values(100, 100, false, 4, 9).posts(1, 0)
                    .classes(0, 0, 0).put(1, 1);
                SongWriter sound = new SongWriter().put(1, 1).put(255, 8).put(255, 8).put(0, channels - 1).word(Songs.zeros(64));
                Songs.layPage(x, 0, 0, 0, setup.bytes());
                Songs.layPage(x, 0, 0, 1, Songs.silence());
                Songs.layPage(x, 0, 0, 2, sound.bytes());
                Songs.layPage(x, 0, 0, 3, Songs.silence());
                due("read", x.read(), 32);
                dueNumbers("of " + channels, x, 0, sixteen(1000));
            }
        }
    }

    private void whatComesBehind() {
        sentence("What comes behind does not count.");
        for (int channels = 1; channels <= 2; channels++) {
            for (int value : new int[] {0, 1, 86, 255}) {
                for (int more : new int[] {1, 2, 100, 1900}) {
                    List<Integer> setup = Songs.plainSetup(channels);
                    setup.addAll(SongWriter.many(more, value));
                    due(more + " bytes of " + value, Songs.answer(setup, Songs.silence(), Songs.silence()), 16);
                }
            }
            // The bits behind it in its last byte.
            SongWriter setup = new SongWriter().start(channels, 1).book(1, 1, 1).posts(1, 0).classes(0, 0, 8).put(0, channels - 1);
            due("its last byte has more bits", setup.bits() % 8 != 0, true);
            setup.word("1".repeat(8 - setup.bits() % 8));
            due("bits behind it", Songs.answer(setup.bytes(), Songs.silence(), Songs.silence()), 16);
        }
    }
}
