import java.util.ArrayList;
import java.util.Arrays;
import java.util.List;

/** The sentences of "3. SOUND" about RESTS, LEANING and PACKETS that end early. */
final class RestSentences extends Sentences {
    private static final String[] PAIRS = {"00", "01", "10", "11"};

    RestSentences(Doc doc) {
        super(doc);
    }

    @Override
    void hold() {
        heard();
        parts();
        entriesAtOnce();
        leaning();
        earlyEndInCurves();
        earlyEndInRests();
        earlyEndOfTwo();
        entryThatCannotBe();
    }

    private static SongWriter full() {
        return new SongWriter().put(1, 1).put(255, 8).put(255, 8);
    }

    private static long[][] straight(long[] first, long[] second) {
        long[][] straight = new long[2][16];
        for (int k = 0; k < 16; k++) {
            long m = first[k];
            long a = second[k];
            if (m > 0) {
                straight[0][k] = a > 0 ? m : m + a;
                straight[1][k] = a > 0 ? m - a : m;
            } else {
                straight[0][k] = a > 0 ? m : m - a;
                straight[1][k] = a > 0 ? m + a : m;
            }
        }
        return straight;
    }

    private void heard() {
        sentence("RESTS: with LEANING both CHANNELS are HEARD, if one is not SILENT; else those that are not SILENT.");
        int[] values = {-100, 100, 300, 900};
        for (int leaning = 0; leaning < 2; leaning++) {
            SongWriter setup = new SongWriter().start(2, 2).lengths(1, 2, 2, 2, 2).values(-100, 200, false, 3, 0, 1, 2, 5)
                .book(1, 1).posts(1, 1).classes(0, 1, 0).put(leaning, 1);
            for (int which = 0; which < 4; which++) {
                boolean[] told = {(which & 1) == 1, (which & 2) == 2};
                boolean[] heard = leaning == 1 ? new boolean[] {which > 0, which > 0} : told;
                SongWriter sound = new SongWriter();
                for (int c = 0; c < 2; c++) {
                    sound.put(told[c] ? 1 : 0, 1).put(255, told[c] ? 8 : 0).put(255, told[c] ? 8 : 0);
                }
                long[][] numbers = new long[2][16];
                // As many numbers as two CHANNELS could take: those of one that is not HEARD come to no one.
                int at = 0;
                for (int c = 0; c < 2; c++) {
                    for (int k = 0; k < 16 && heard[c]; k++) {
                        int entry = at * at % 7 % 4;
                        sound.word("0").word(PAIRS[entry]);
                        numbers[c][k] = values[entry];
                        at++;
                    }
                }
                sound.word("0".repeat(60));
                long[][] due = leaning == 1 && which > 0 ? straight(numbers[0], numbers[1]) : numbers;
                Reader x = Songs.played(setup, sound);
                for (int c = 0; c < 2; c++) {
                    String what = "LEANING " + leaning + ", told " + which;
                    dueNumbers(what, x, c, told[c] ? due[c] : new long[16]);
                }
            }
        }
    }

    private void parts() {
        sentence("Of each that is HEARD 16 numbers, 0 at first, in 16 / SIZE parts: of each part an ENTRY of the CLASSES' BOOK, "
            + "modulo CLASSES, is its CLASS;");
        int[] lengths = Songs.lengths(64);
        String[] words = Songs.words(lengths);
        for (int classes = 1; classes <= 4; classes++) {
            SongWriter setup = new SongWriter().start(1, 5);
            int[] books = new int[classes];
            for (int i = 0; i < 4; i++) {
                setup.lengths(1, 1).values(100, 100, false, 4, i);
                books[i % classes] = i % classes;
            }
            setup.book(1, lengths).posts(1, 4).classes(0, 4, books);
            for (int from = 0; from < 64; from += 16) {
                SongWriter sound = full();
                long[] due = new long[16];
                for (int k = 0; k < 16; k++) {
                    sound.word(words[from + k]).word("0");
                    due[k] = 100 + 100 * ((from + k) % classes);
                }
                dueNumbers("ENTRIES from " + from + " on, CLASSES " + classes, Songs.played(setup, sound), 0, due);
            }
        }
        // 0 at first: of CLASSES without a BOOK, in one part, in all, and behind a SOUND that told them.
        for (int number = 0; number < 4; number++) {
            int size = 1 << number;
            for (int none = 0; none < 16 / size; none++) {
                SongWriter setup = new SongWriter().start(1, 2).lengths(1, 1).values(100, 100, false, 4, 9).book(1, 1, 1)
                    .posts(1, 1).classes(number, 1, 0, 8);
                SongWriter sound = full();
                long[] due = new long[16];
                for (int part = 0; part < 16 / size; part++) {
                    sound.word(part == none ? "1" : "0" + Songs.zeros(size));
                    Arrays.fill(due, part * size, (part + 1) * size, part == none ? 0 : 1000);
                }
                dueNumbers("SIZE " + size + ", part " + none + " has no BOOK", Songs.played(setup, sound), 0, due);
            }
        }
        zeroBehindATold();
    }

    private void zeroBehindATold() {
        SongWriter setup = new SongWriter().start(1, 2).lengths(1, 1).values(100, 100, false, 4, 9).book(1, 1, 1)
            .posts(1, 1).classes(3, 1, 0, 8);
        SongWriter told = full().word(Songs.zeros(18));
        SongWriter none = full().word("11").word(Songs.zeros(18));
        Reader x = Songs.laid(setup.bytes(), Songs.silence(), told.bytes(), none.bytes(), Songs.silence());
        due("read", x.read(), 48);
        long[] numbers = new long[16];
        Arrays.fill(numbers, 1000);
        dueFactors("told", x, 0, Songs.factors(numbers));
        for (int n = 32; n < 48; n++) {
            due("of no BOOK behind it", x.sample(0, n), 0);
        }
    }

    private void entriesAtOnce() {
        sentence("if that has a BOOK, SIZE / WIDTH ENTRIES come at once, whose VALUES are the part's numbers.");
        for (int number = 0; number < 4; number++) {
            int size = 1 << number;
            for (int width = 1; width <= Math.min(4, size); width *= 2) {
                // 16 ENTRIES, of four bits each; CLASS 0 has the BOOK, CLASS 1 has none.
                int q = width == 1 ? 16 : width == 2 ? 4 : 2;
                int[] numbers = new int[q];
                for (int i = 0; i < q; i++) {
                    numbers[i] = 1 + i * 5 % 16;
                }
                SongWriter setup = new SongWriter().start(1, 2).lengths(width, Songs.lengths(16)).values(-10, 40, false, 5, numbers)
                    .book(1, 1, 1).posts(1, 1).classes(number, 1, 0, 12);
                SongWriter sound = full();
                long[] due = new long[16];
                int entry = 3;
                for (int part = 0; part < 16 / size; part++) {
                    boolean told = part % 3 != 1;
                    sound.word(told ? "0" : "1");
                    for (int i = 0; i < size && told; i += width) {
                        sound.word(Integer.toBinaryString(16 | entry).substring(1));
                        for (int place = 0, rest = entry; place < width; place++, rest /= q) {
                            due[part * size + i + place] = 40 * numbers[rest % q] - 10;
                        }
                        entry = (entry * 5 + 7) % 16;
                    }
                }
                dueNumbers("SIZE " + size + ", WIDTH " + width, Songs.played(setup, sound), 0, due);
            }
        }
    }

    private void leaning() {
        sentence("LEANING (if HEARD): of M, of the first, and A, of the second CHANNEL: M above 0: A above 0: M, M - A; "
            + "else M + A, M. M not above 0: A above 0: M, M + A; else M - A, M.");
        // By hand, M and A and what comes of them.
        int[][] rows = {{120, 90, 120, 30}, {90, 120, 90, -30}, {90, 90, 90, 0}, {120, 0, 120, 120}, {120, -90, 30, 120},
            {0, 120, 0, 120}, {0, 0, 0, 0}, {0, -90, 90, 0}, {-90, 120, -90, 30}, {-90, 0, -90, -90},
            {-90, -120, 30, -90}, {-120, -90, -30, -120}, {-90, -90, 0, -90}, {-120, 90, -120, -30},
            {1, 120, 1, -119}, {1, -90, -89, 1}, {1, 0, 1, 1}, {1, 1, 1, 0}, {1, -1, 0, 1}, {0, 1, 0, 1}, {0, -1, 1, 0},
            {-1, 120, -1, 119}, {-1, -90, 89, -1}, {-1, 0, -1, -1}, {-1, 1, -1, 0}, {-1, -1, 0, -1},
            {120, 1, 120, 119}, {120, -1, 119, 120}, {-90, 1, -90, -89}, {-90, -1, -89, -90}};
        int[] values = {-120, -90, -1, 0, 1, 90, 120};
        int[] numbers = new int[values.length];
        for (int i = 0; i < values.length; i++) {
            numbers[i] = values[i] + 128;
        }
        SongWriter setup = new SongWriter().start(2, 2).lengths(1, Songs.lengths(7)).values(-128, 1, false, 8, numbers)
            .book(1, 1).posts(1, 1).classes(0, 1, 0).put(1, 1);
        String[] words = Songs.words(Songs.lengths(7));
        for (int silent = 0; silent < 3; silent++) {
            for (int[] row : rows) {
                for (int at = 0; at < 16; at += 5) {
                    // At one place alone, the others being 0 and 0, and at all places.
                    SongWriter sound = new SongWriter();
                    for (int c = 0; c < 2; c++) {
                        boolean told = silent != c + 1;
                        sound.put(told ? 1 : 0, 1).put(255, told ? 8 : 0).put(255, told ? 8 : 0);
                    }
                    long[][] due = new long[2][16];
                    for (int c = 0; c < 2; c++) {
                        for (int k = 0; k < 16; k++) {
                            boolean here = k == at || at == 0;
                            sound.word("0").word(words[Arrays.binarySearch(values, here ? row[c] : 0)]);
                            due[c][k] = here && silent != c + 1 ? row[2 + c] : 0;
                        }
                    }
                    Reader x = Songs.played(setup, sound);
                    String what = "M " + row[0] + ", A " + row[1] + ", SILENT " + silent;
                    dueNumbers(what, x, 0, due[0]);
                    dueNumbers(what, x, 1, due[1]);
                }
            }
        }
    }

    /** A loud SOUND of one CHANNEL with so many POSTS, each told by one bit; four bits for each number. */
    private static SongWriter soundOf(int posts, int channels) {
        SongWriter sound = new SongWriter();
        for (int c = 0; c < channels; c++) {
            sound.put(1, 1).put(255, 8).put(255, 8).word(Songs.zeros(posts));
        }
        for (int k = 0; k < 16 * channels; k++) {
            sound.word("0").word(Integer.toBinaryString(8 | wordOf(k)).substring(1));
        }
        return sound;
    }

    private static int wordOf(int k) {
        return (k * 3 + 1) % 8;
    }

    /** LEAST is 50 and no number 0: what is told is never 0. */
    private static SongWriter setupOf(int posts, int channels, int leaning) {
        int[] xs = new int[posts];
        for (int i = 0; i < posts; i++) {
            xs[i] = i + 1;
        }
        return new SongWriter().start(channels, 3).lengths(1, Songs.lengths(8)).values(50, 50, false, 4, 1, 2, 3, 4, 5, 6, 7, 8)
            .book(1, 1, 1).book(1, 1).posts(1, 1, xs).classes(0, 2, 0).put(leaning, channels - 1);
    }

    private static long valueOf(int k) {
        return 100 + 50 * wordOf(k);
    }

    private static List<Integer> firstBytes(SongWriter sound, int count) {
        return new ArrayList<>(sound.bytes().subList(0, count));
    }

    private void earlyEndInCurves() {
        sentence("Where a PACKET ends early: in what tells the CURVES, that PACKET is passed over and counts for nothing;");
        for (int channels = 1; channels <= 2; channels++) {
            for (int posts = 0; posts <= 8; posts++) {
                SongWriter setup = setupOf(posts, channels, 0);
                SongWriter sound = soundOf(posts, channels);
                int curves = channels * (17 + posts);
                for (int bytes = 0; 8 * bytes < curves + 8; bytes++) {
                    boolean counts = 8 * bytes >= curves;
                    String what = bytes + " bytes for " + curves + " bits";
                    Reader x = Songs.laid(setup.bytes(), firstBytes(sound, bytes));
                    due(what, x.read(), 0);
                    dueLooks(what, x, 2, 0, 2, counts ? 1 : 0, counts ? 0 : 1);
                    Reader between = Songs.laid(setup.bytes(), Songs.silence(), firstBytes(sound, bytes), Songs.silence());
                    due(what + " between two", between.read(), counts ? 32 : 16);
                    dueLooks(what + " between two", between, 4, 0, 4, counts ? 3 : 2, counts ? 0 : 1);
                }
            }
        }
        countsForNothing();
    }

    private void countsForNothing() {
        // Between two SOUNDS that are heard: the halves ahead and behind are laid over one another as if it were not there.
        SongWriter setup = setupOf(3, 1, 0);
        List<Integer> sound = soundOf(3, 1).bytes();
        for (int many = 0; many <= 3; many++) {
            List<List<Integer>> packets = new ArrayList<>();
            packets.add(setup.bytes());
            for (int i = 0; i < 3; i++) {
                for (int j = 0; j < many; j++) {
                    packets.add(new ArrayList<>(sound.subList(0, j % 3)));
                }
                packets.add(sound);
            }
            Reader x = Songs.laidTogether(packets);
            due(many + " between", x.read(), 32);
            dueLooks(many + " between", x, 1, 0, 4 + 3 * many, 3, 3 * many);
            long[] numbers = new long[16];
            for (int k = 0; k < 16; k++) {
                numbers[k] = valueOf(k);
            }
            long[] halves = Songs.halves(Songs.factors(numbers));
            for (int n = 0; n < 32; n++) {
                due(many + " between, SAMPLE " + n, x.sample(0, n), Songs.held(halves[16 + n % 16] + halves[n % 16]));
            }
        }
        // All of them are passed over.
        Reader none = Songs.laid(setup.bytes(), Songs.none(), SongWriter.row(1), SongWriter.row(1, 0));
        due("all passed over", none.read(), 0);
        dueLooks("all passed over", none, 4, 0, 4, 0, 3, 1);
    }

    private void earlyEndInRests() {
        sentence("in RESTS, what is not told is 0.");
        for (int posts = 0; posts <= 7; posts++) {
            SongWriter setup = setupOf(posts, 1, 0);
            SongWriter sound = soundOf(posts, 1);
            for (int bytes = (17 + posts + 7) / 8; bytes <= sound.bytes().size(); bytes++) {
                Reader x = Songs.laid(setup.bytes(), Songs.silence(), firstBytes(sound, bytes), Songs.silence());
                due("read", x.read(), 32);
                long[] due = new long[16];
                for (int k = 0; k < 16; k++) {
                    due[k] = 17 + posts + 4 * (k + 1) <= 8 * bytes ? valueOf(k) : 0;
                }
                dueNumbers(bytes + " bytes, " + posts + " POSTS", x, 0, due);
            }
        }
        // An ENTRY of WIDTH 4 is told wholly or not at all; those ahead of it in the part stay.
        for (int posts = 0; posts <= 7; posts++) {
            int[] xs = new int[posts];
            for (int i = 0; i < posts; i++) {
                xs[i] = i + 1;
            }
            SongWriter setup = new SongWriter().start(1, 3).lengths(4, Songs.lengths(16)).values(50, 50, false, 4, 7, 2)
                .book(1, 1, 1).book(1, 1).posts(1, 1, xs).classes(3, 2, 0);
            SongWriter sound = full().word(Songs.zeros(posts)).word("0").word("0110").word("1011").word("0").word("0001").word("1100");
            int[] ends = {5, 9, 14, 18};
            int[][] numbers = {{7, 2, 2, 7}, {2, 2, 7, 2}, {2, 7, 7, 7}, {7, 7, 2, 2}};
            for (int bytes = (17 + posts + 7) / 8; bytes <= sound.bytes().size(); bytes++) {
                Reader x = Songs.laid(setup.bytes(), Songs.silence(), firstBytes(sound, bytes), Songs.silence());
                due("read", x.read(), 32);
                long[] due = new long[16];
                for (int k = 0; k < 16; k++) {
                    boolean told = 17 + posts + ends[k / 4] <= 8 * bytes;
                    due[k] = told ? 50 + 50 * numbers[k / 4][k % 4] : 0;
                }
                dueNumbers("WIDTH 4, " + bytes + " bytes, " + posts + " POSTS", x, 0, due);
            }
        }
        endInAClass();
        notToldBehindATold();
    }

    private void endInAClass() {
        // Of one to four CLASSES: the end is in an ENTRY of the CLASSES' BOOK, ahead of it, or in one of the part.
        for (int classes = 1; classes <= 4; classes++) {
            for (int posts = 0; posts <= 7; posts++) {
                int[] xs = new int[posts];
                for (int i = 0; i < posts; i++) {
                    xs[i] = 15 - i;
                }
                SongWriter setup = new SongWriter().start(1, 3).lengths(1, Songs.lengths(8)).values(50, 50, false, 4, 1, 2, 3, 4, 5, 6, 7, 8)
                    .book(1, 2, 2, 2, 2).book(1, 1, 1).posts(1, 2, xs).classes(2, 1, new int[classes]);
                SongWriter sound = full().word(Songs.zeros(posts));
                int[] ends = new int[16];
                for (int k = 0; k < 16; k++) {
                    sound.word(k % 4 == 0 ? PAIRS[3 - k / 4] : "").word(Integer.toBinaryString(8 | wordOf(k)).substring(1));
                    ends[k] = sound.bits();
                }
                for (int bytes = (17 + posts + 7) / 8; bytes <= sound.bytes().size(); bytes++) {
                    Reader x = Songs.laid(setup.bytes(), Songs.silence(), firstBytes(sound, bytes), Songs.silence());
                    due("read", x.read(), 32);
                    long[] due = new long[16];
                    for (int k = 0; k < 16; k++) {
                        due[k] = ends[k] <= 8 * bytes ? valueOf(k) : 0;
                    }
                    dueNumbers(bytes + " bytes, " + classes + " CLASSES, " + posts + " POSTS", x, 0, due);
                }
            }
        }
    }

    private void notToldBehindATold() {
        // 0, not what the SOUND before told there.
        SongWriter setup = setupOf(0, 1, 0);
        Reader x = Songs.laid(setup.bytes(), soundOf(0, 1).bytes(), full().word(Songs.zeros(7)).bytes(), Songs.silence());
        due("read", x.read(), 32);
        long[] numbers = new long[16];
        for (int k = 0; k < 16; k++) {
            numbers[k] = valueOf(k);
        }
        long[] ahead = Songs.halves(Songs.factors(numbers));
        // 0 000 is told once: the VALUE 100; then 000 is no whole ENTRY.
        long[] halves = Songs.halves(Songs.factors(100));
        for (int n = 0; n < 16; n++) {
            due("SAMPLE " + n, x.sample(0, n), Songs.held(ahead[16 + n] + halves[n]));
            due("SAMPLE " + (16 + n), x.sample(0, 16 + n), Songs.held(halves[16 + n]));
        }
    }

    private void earlyEndOfTwo() {
        // The end in the first CHANNEL's numbers leaves none for the second; LEANING is of what there is.
        for (int leaning = 0; leaning < 2; leaning++) {
            for (int posts = 0; posts <= 3; posts++) {
                SongWriter setup = setupOf(posts, 2, leaning);
                SongWriter sound = soundOf(posts, 2);
                int curves = 2 * (17 + posts);
                for (int bytes = (curves + 7) / 8; bytes <= sound.bytes().size(); bytes++) {
                    Reader x = Songs.laid(setup.bytes(), Songs.silence(), firstBytes(sound, bytes), Songs.silence());
                    due("read", x.read(), 32);
                    long[][] due = new long[2][16];
                    for (int k = 0; k < 32; k++) {
                        due[k / 16][k % 16] = curves + 4 * (k + 1) <= 8 * bytes ? valueOf(k) : 0;
                    }
                    due = leaning == 1 ? straight(due[0], due[1]) : due;
                    String what = bytes + " bytes, two CHANNELS, LEANING " + leaning;
                    dueNumbers(what, x, 0, due[0]);
                    dueNumbers(what, x, 1, due[1]);
                }
            }
        }
    }

    private void entryThatCannotBe() {
        sentence("An ENTRY that cannot be (of a BOOK with one ENTRY a 1): as an early end.");
        // In a CURVE: at each of three POSTS, of the first and of the second CHANNEL; bits enough behind it.
        for (int entries = 1; entries <= 3; entries++) {
            int[] lengths = new int[entries];
            lengths[entries - 1] = 1;
            SongWriter setup = new SongWriter().start(2, 1).lengths(1, lengths).values(100, 100, false, 4, new int[entries])
                .posts(1, 0, 8, 4, 12).classes(0, 0, 0).put(0, 1);
            for (int at = -1; at < 6; at++) {
                SongWriter sound = new SongWriter();
                for (int c = 0; c < 2; c++) {
                    sound.put(1, 1).put(255, 8).put(255, 8);
                    for (int i = 0; i < 3; i++) {
                        sound.word(at == 3 * c + i ? "1" : "0");
                    }
                }
                Reader x = Songs.laid(setup.bytes(), Songs.silence(), sound.word(Songs.zeros(99)).bytes(), Songs.silence());
                due("a 1 at POST " + at, x.read(), at < 0 ? 32 : 16);
                dueLooks("a 1 at POST " + at, x, 4, 0, 4, at < 0 ? 3 : 2, at < 0 ? 0 : 1);
                due("a 1 at POST " + at + ": what is heard", x.sum(0) != 0, at < 0);
            }
        }
        cannotBeInRests();
    }

    private void cannotBeInRests() {
        // In RESTS: as a part's CLASS, or as one of its ENTRIES; what is told ahead of it stays, all behind it is 0.
        for (int leaning = 0; leaning < 2; leaning++) {
            // CLASS 1 is never told, but that there is one may not matter.
            SongWriter setup = new SongWriter().start(2, 2).lengths(1, 1).values(100, 100, false, 4, 9).book(1, 1)
                .posts(1, 1).classes(1, 1, 0, 0).put(leaning, 1);
            for (int at = 0; at < 49; at++) {
                // Of each part a CLASS and two ENTRIES: 24 bits of a CHANNEL.
                SongWriter sound = new SongWriter().put(1, 1).put(255, 8).put(255, 8).put(1, 1).put(255, 8).put(255, 8)
                    .word(Songs.zeros(at)).word("1").word(Songs.zeros(60));
                long[][] due = new long[2][16];
                for (int k = 0; k < 32; k++) {
                    int bitsAhead = k / 2 * 3 + 1 + k % 2;
                    due[k / 16][k % 16] = bitsAhead < at ? 1000 : 0;
                }
                due = leaning == 1 ? straight(due[0], due[1]) : due;
                Reader x = Songs.played(setup, sound);
                due("it counts", x.look(3), 3);
                dueNumbers("a 1 at bit " + at + ", LEANING " + leaning, x, 0, due[0]);
                dueNumbers("a 1 at bit " + at + ", LEANING " + leaning, x, 1, due[1]);
            }
        }
    }
}
