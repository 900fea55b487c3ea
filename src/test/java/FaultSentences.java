import java.util.ArrayList;
import java.util.List;

/** The sentences of "2. SETUP" about its FAULTS, and which of two comes first. */
final class FaultSentences extends Sentences {
    FaultSentences(Doc doc) {
        super(doc);
    }

    @Override
    void hold() {
        firstAlong();
        noPacket();
        itsEnd();
        notTheMark();
        noWholeTree();
        noBook();
        xs();
        classBook();
        eachAtOnce();
    }

    private static int answer(SongWriter setup) {
        return Songs.answer(setup.bytes());
    }

    private static SongWriter oneBook() {
        return new SongWriter().start(1, 1).book(1, 1, 1);
    }

    private void firstAlong() {
        sentence("FAULTS, the first along it:");
        // From the last fault forward, each one ahead of it takes its place.
        due("5 of a CLASS", answer(oneBook().posts(1, 0, 3).classes(0, 0, 9, 4)), -5);
        due("7, then 5", answer(oneBook().posts(1, 0, 3).classes(0, 0, 0, 4)), -7);
        due("5 of CLASSES, then 7 and 5", answer(oneBook().posts(1, 0, 3).classes(0, 6, 0, 4)), -5);
        due("6, then 5 and 7", answer(oneBook().posts(1, 0, 16).classes(0, 6, 0, 4)), -6);
        due("5 of POSTS, then 6", answer(oneBook().posts(1, 1, 16).classes(0, 6, 0, 4)), -5);
        due("4, then 5", answer(new SongWriter().start(1, 1).book(1, 2, 2).posts(1, 1, 16).classes(0, 6, 0, 4)), -4);
        due("3, then 4", answer(new SongWriter().put(87, 8).put(0, 4).book(1, 2, 2).posts(1, 1, 16)), -3);
        due("7 is the last", answer(oneBook().posts(1, 0, 3).classes(0, 0, 0)), -7);
    }

    private void noPacket() {
        sentence("1 no PACKET;");
        due("an empty TAPE", Songs.answer(), -1);
        Reader page = new Reader();
        page.page(0, 0, 0, 1, 0, true);
        due("a PAGE of no LACES", page.read(), -1);
        Reader begun = new Reader();
        Songs.layOpenPage(begun, 0, 0, 2);
        due("a PACKET begun", begun.read(), -1);
        Reader goesOn = new Reader();
        Songs.layLaces(goesOn, 1, 0, 86, 3);
        due("a PACKET's end alone", goesOn.read(), -1);
        due("a PACKET too long", Songs.answer(SongWriter.many(2001, 86)), -1);
        Reader anything = new Reader();
        Songs.lay(anything, SongWriter.many(6000, 79));
        due("6000 bytes of anything", anything.read(), -1);
        // An empty PACKET is one.
        due("an empty PACKET", Songs.answer(Songs.none()), -2);
    }

    private void itsEnd() {
        sentence("2 its end;");
        // BITS of BOOK 0 shift all that comes behind: every bit of it is once the first behind the end.
        for (int bits = 1; bits <= 8; bits++) {
            SongWriter setup = new SongWriter().start(2, 3).lengths(1, 1).values(-1, 255, true, bits, (1 << bits) - 1)
                .lengths(2, 2, 2, 2, 2).values(-1, 255, true, 8, 255, 255).book(4, 1, 1)
                .posts(4, 2, 15, 1, 14).classes(3, 2, 1, 15, 0, 15).put(1, 1);
            List<Integer> bytes = setup.bytes();
            due("whole", Songs.answer(bytes), 0);
            // The last bit is told by the last byte: all that is shorter ends ahead of it.
            for (int size = 0; size < bytes.size(); size++) {
                due(size + " of " + bytes.size() + " bytes, BITS " + bits, Songs.answer(new ArrayList<>(bytes.subList(0, size))), -2);
            }
        }
        // Of one CHANNEL the last CLASS' number is the last.
        for (int posts = 0; posts < 15; posts++) {
            int[] some = new int[posts];
            for (int i = 0; i < posts; i++) {
                some[i] = 15 - i;
            }
            SongWriter setup = oneBook().posts(1, 0, some).classes(0, 0, 15, 15, 15, 15);
            List<Integer> bytes = setup.bytes();
            due("whole of " + posts, Songs.answer(bytes), 0);
            due("cut by one, of " + posts, Songs.answer(new ArrayList<>(bytes.subList(0, bytes.size() - 1))), -2);
        }
    }

    private void notTheMark() {
        sentence("3 not 86;");
        for (int value : new int[] {0, 1, 85, 87, 86 ^ 128, 255, 106}) {
            due(value + " alone", Songs.answer(SongWriter.row(value)), -3);
            due(value + " and more", Songs.answer(SongWriter.row(value, 0, 0, 0, 0, 0, 0, 0)), -3);
        }
        due("86 alone", Songs.answer(SongWriter.row(86)), -2);
        due("86 second", Songs.answer(SongWriter.row(0, 86)), -3);
    }

    private void noWholeTree() {
        sentence("4 a BOOK that is no whole tree (known behind its LENGTHS);");
        // The BOOK's LENGTHS are the last bits of the PACKET: 12 and 8 of its head and four of each.
        int[][] bad = {{1, 1, 1}, {2, 2, 2}, {2}, {0}, {1, 2, 3}, {15, 15, 15, 15, 15}};
        for (int[] lengths : bad) {
            SongWriter setup = new SongWriter().start(1, 1).lengths(1, lengths);
            due("bits come out even", setup.bits() % 8, 0);
            due("nothing behind " + lengths.length + " LENGTHS", answer(setup), -4);
            due("more behind " + lengths.length + " LENGTHS", answer(new SongWriter().start(1, 1).book(1, lengths)), -4);
            // Not known as long as a LENGTH is still to come, even if no further one could mend it.
            List<Integer> bytes = setup.bytes();
            due("the last LENGTHS cut", Songs.answer(new ArrayList<>(bytes.subList(0, bytes.size() - 1))), -2);
        }
        SongWriter early = new SongWriter().start(1, 1).lengths(1, 1, 1, 1, 1, 1, 1, 1);
        List<Integer> cut = early.bytes();
        due("three of 1 and more to come", Songs.answer(new ArrayList<>(cut.subList(0, cut.size() - 1))), -2);
        due("seven of 1", Songs.answer(cut), -4);
        // A whole tree, with nothing behind: its end.
        due("a whole tree, then the end", answer(new SongWriter().start(1, 1).lengths(1, 1, 2, 2)), -2);
        // Any BOOK of them, even if no one names it.
        for (int count = 1; count <= 8; count++) {
            for (int at = 0; at < count; at++) {
                SongWriter setup = new SongWriter().start(1, count);
                for (int i = 0; i < count; i++) {
                    setup.book(1, i == at ? new int[] {1, 2} : new int[] {1, 1});
                }
                due("BOOK " + at + " of " + count, answer(setup.posts(1, 0).classes(0, 0, 8)), -4);
            }
        }
    }

    private void noBook() {
        sentence("5 a BOOK number that is none (of POSTS, CLASSES, and of a CLASS below 8);");
        for (int count = 1; count <= 8; count++) {
            for (int number = 0; number < 8; number++) {
                int due = number < count ? 0 : -5;
                due("POSTS' " + number + " of " + count, answer(books(count).posts(1, number).classes(0, 0, 8)), due);
                due("POSTS' " + number + " of " + count + ", one POST", answer(books(count).posts(1, number, 9).classes(0, 0, 8)), due);
                due("CLASSES' " + number + " of " + count, answer(books(count).posts(1, 0).classes(0, number, 8)), due);
                due("a CLASS' " + number + " of " + count, answer(books(count).posts(1, 0).classes(0, 0, number)), due);
                due("the last CLASS' " + number + " of " + count, answer(books(count).posts(1, 0).classes(0, 0, 15, 8, 0, number)), due);
            }
            for (int number = 8; number < 16; number++) {
                due("a CLASS' " + number + " of " + count, answer(books(count).posts(1, 0).classes(0, 0, number)), 0);
            }
        }
    }

    private static SongWriter books(int count) {
        SongWriter setup = new SongWriter().start(1, count);
        for (int i = 0; i < count; i++) {
            setup.lengths(1, 1).values(0, 1, false, 1, 1);
        }
        return setup;
    }

    private void xs() {
        sentence("6 an X;");
        int[][] bad = {{0}, {16}, {17}, {31}, {5, 5}, {5, 0}, {1, 2, 3, 1}, {15, 14, 15}, {15, 16}};
        for (int[] some : bad) {
            due("X " + some[some.length - 1] + " of " + some.length, answer(oneBook().posts(1, 0, some).classes(0, 0, 8)), -6);
        }
        due("X 1", answer(oneBook().posts(1, 0, 1).classes(0, 0, 8)), 0);
        due("X 15", answer(oneBook().posts(1, 0, 15).classes(0, 0, 8)), 0);
        // X of the SETUP before are gone.
        Reader x = new Reader();
        for (int round = 0; round < 3; round++) {
            Songs.layPage(x, 0, 0, 0, oneBook().posts(1, 0, 3, 7).classes(0, 0, 8).bytes());
            due("the same X in another SETUP", x.read(), 0);
        }
    }

    private void classBook() {
        sentence("7 a CLASS' BOOK without VALUES, or whose WIDTH does not divide SIZE.");
        int[] roots = {4, 2, 1, 1};
        for (int width = 1; width <= 4; width++) {
            for (int number = 0; number < 4; number++) {
                int size = 1 << number;
                String what = "WIDTH " + width + " of SIZE " + size;
                SongWriter with = new SongWriter().start(1, 1).lengths(width, 2, 2, 2, 2).values(0, 1, false, 1, new int[roots[width - 1]])
                    .posts(1, 0).classes(number, 0, 0);
                due(what, answer(with), size % width == 0 ? 0 : -7);
                SongWriter without = new SongWriter().start(1, 1).book(width, 2, 2, 2, 2).posts(1, 0).classes(number, 0, 0);
                due(what + " without VALUES", answer(without), -7);
                // As the BOOK of POSTS and CLASSES it may be as it is.
                SongWriter none = new SongWriter().start(1, 1).book(width, 2, 2, 2, 2).posts(1, 0, 8).classes(number, 0, 15);
                due(what + ", no CLASS'", answer(none), 0);
            }
        }
        for (int at = 0; at < 4; at++) {
            int[] classes = {1, 1, 1, 1};
            classes[at] = 0;
            SongWriter setup = new SongWriter().start(1, 2).book(1, 1, 1).lengths(1, 1).values(0, 1, false, 1, 1)
                .posts(1, 0).classes(0, 0, classes);
            due("CLASS " + at + " of four", answer(setup), -7);
        }
        // VALUES of a BOOK of the SETUP before are gone.
        Reader x = new Reader();
        Songs.layPage(x, 0, 0, 0, books(1).posts(1, 0).classes(0, 0, 0).bytes());
        due("with VALUES", x.read(), 0);
        Songs.layPage(x, 0, 0, 0, oneBook().posts(1, 0).classes(0, 0, 0).bytes());
        due("without VALUES, in another SETUP", x.read(), -7);
    }

    private void eachAtOnce() {
        sentence("(Each at once; of one number 5 ahead of 7.)");
        due("a CLASS' BOOK that is none has no VALUES, either", answer(oneBook().posts(1, 0).classes(0, 0, 1)), -5);
        due("5, then 7", answer(oneBook().posts(1, 0).classes(0, 0, 1, 0)), -5);
        due("7, then 5", answer(oneBook().posts(1, 0).classes(0, 0, 0, 1)), -7);
        // At once: with the end right behind the number that is wrong. A BOOK's BITS shift it to a byte's end.
        dueAtOnce("POSTS' BOOK", new SongWriter().posts(1, 7), -5);
        dueAtOnce("X 0", new SongWriter().put(0, 2).put(15, 4).put(0, 3).put(0, 5), -6);
        dueAtOnce("X 16", new SongWriter().put(0, 2).put(15, 4).put(0, 3).put(16, 5), -6);
        dueAtOnce("X 9 again", new SongWriter().put(0, 2).put(15, 4).put(0, 3).put(9, 5).put(3, 5).put(9, 5), -6);
        dueAtOnce("CLASSES' BOOK", new SongWriter().posts(1, 0).put(0, 2).put(3, 2).put(7, 3), -5);
        dueAtOnce("CLASS 0 of four, 5", new SongWriter().posts(1, 0).put(0, 2).put(3, 2).put(0, 3).put(7, 4), -5);
        dueAtOnce("CLASS 1 of four, 5", new SongWriter().posts(1, 0).put(0, 2).put(3, 2).put(0, 3).put(8, 4).put(2, 4), -5);
        dueAtOnce("CLASS 0 of four, 7", new SongWriter().posts(1, 0).put(0, 2).put(3, 2).put(0, 3).put(1, 4), -7);
        // Of two CHANNELS, ahead of the bit of LEANING.
        dueAtOnce("the last CLASS, 7", new SongWriter().posts(1, 0).put(0, 2).put(0, 2).put(0, 3).put(1, 4), -7);
        dueAtOnce("the last CLASS, 5", new SongWriter().posts(1, 0).put(0, 2).put(0, 2).put(0, 3).put(2, 4), -5);
    }

    /** What follows on two BOOKS, the second without VALUES, ends with a number that is wrong; the PACKET ends there, too. */
    private void dueAtOnce(String what, SongWriter rest, int due) {
        for (int bits = 1; bits <= 8; bits++) {
            SongWriter setup = new SongWriter().start(2, 2).lengths(1, 1).values(0, 1, false, bits, 0).book(1, 1);
            List<Integer> restBytes = rest.bytes();
            for (int i = 0; i < rest.bits(); i++) {
                setup.put(restBytes.get(i / 8) >> i % 8 & 1, 1);
            }
            boolean even = setup.bits() % 8 == 0;
            if (even) {
                due(what + ", then the end", answer(setup), due);
            }
            due(what + ", then 0s", answer(setup.word(Songs.zeros(90))), due);
            if (even) {
                // One bit less of the number, and it is its end.
                List<Integer> bytes = setup.bytes();
                int whole = (setup.bits() - 90) / 8;
                due(what + ", cut", Songs.answer(new ArrayList<>(bytes.subList(0, whole - 1))), -2);
            }
        }
    }
}
