import java.util.ArrayList;
import java.util.List;

/** Each promise by itself: ordinary inputs, the edges that the document names, and wrong inputs. */
public final class PromiseTest {
    private static int wrong = 0;

    public static void main(String[] args) {
        promise1NewObject();
        promise2Feed();
        promise3End();
        promise4Harm();
        promise5Page();
        promise5PageAtItsLimits();
        promise6Pages();
        promise6PacketsOverPages();
        promise6PacketsThrownAway();
        promise6PacketLimits();
        promise6SetupFaults();
        promise6BookTrees();
        promise6Values();
        promise6Curves();
        promise6PostsBehindRoom();
        promise6Rests();
        promise6Leaning();
        promise6EarlyEnds();
        promise6Sums();
        promise6Out();
        promise6EndCut();
        promise7Sample();
        promise8Look();
        promise9Sum();
        promise10Taped();
        System.out.println(wrong == 0 ? "all promises hold" : wrong + " answers are not as due");
        System.exit(wrong == 0 ? 0 : 1);
    }

    private static void due(String what, long got, long want) {
        if (got != want) {
            wrong++;
            System.out.println(what + ": " + got + ", due is " + want);
        }
    }

    private static void due(String what, boolean got, boolean want) {
        due(what, got ? 1 : 0, want ? 1 : 0);
    }

    // ---- songs for the tests ----

    /** One BOOK of two ENTRIES with VALUES 0 and 1, no POSTS, SIZE 1, one CLASS. */
    private static SongWriter plainSetup(int channels, int multiplier) {
        return new SongWriter().start(channels, 1).lengths(1, 1, 1).values(0, 1, false, 1, 0, 1)
            .posts(multiplier, 0).classes(0, 0, 0);
    }

    private static List<Integer> packet(SongWriter bits) {
        return bits.bytes();
    }

    private static void layPage(Reader x, int flags, long granule, int number, List<Integer> packet) {
        int from = x.taped();
        Songs.lay(x, packet);
        x.page(from, flags, granule, 1, number, false);
    }

    /** Each PACKET on a PAGE of its own, then read. */
    @SafeVarargs
    private static int readSong(Reader x, List<Integer>... packets) {
        x.end(0);
        for (int i = 0; i < packets.length; i++) {
            layPage(x, i == packets.length - 1 ? 4 : 0, -1, i, packets[i]);
        }
        return x.read();
    }

    private static int setupFault(SongWriter setup) {
        return readSong(new Reader(), setup.bytes());
    }

    /** What one full-height CURVE makes of one number at k = 0: the document's sums, written out. */
    private static long[] halvesOf(long factor) {
        int[] window = {15, 138, 379, 726, 1160, 1652, 2167, 2665, 3110, 3476, 3748, 3928, 4031, 4078, 4094, 4096};
        long[] halves = new long[32];
        for (int n = 0; n < 32; n++) {
            long y = Math.floorDiv(factor * Math.round(4096 * Math.cos((2 * n + 17) * Math.PI / 64)) + 2048, 4096L);
            halves[n] = Math.floorDiv(y * window[n < 16 ? n : 31 - n], 4096L);
        }
        return halves;
    }

    private static int held(long sum) {
        return (int) Math.max(-32768, Math.min(32767, Math.floorDiv(sum, 256L)));
    }

    // ---- the promises ----

    private static void promise1NewObject() {
        Reader x = new Reader();
        due("new: taped", x.taped(), 0);
        for (int what = 0; what < 8; what++) {
            due("new: look " + what, x.look(what), 0);
        }
        due("new: sample", x.sample(0, 0), 0);
        due("new: sum", x.sum(0), 0);
        due("new: no byte to harm", x.harm(0, 1), false);
        due("new: read finds no PACKET", x.read(), -1);
        Reader fed = new Reader();
        fed.feed(1, 2, 3, 4, 5);
        due("new: an object does not share its TAPE", new Reader().taped(), 0);
    }

    private static void promise2Feed() {
        Reader x = new Reader();
        // A PAGE by hand, its CRC by the document's words: the bytes lie highest first.
        List<Integer> page = SongModel.pageOf(0, 0, 0x01020304, 0, SongWriter.row(1), SongWriter.row(86));
        int[] numbers = new int[10];
        for (int i = 0; i < page.size(); i++) {
            numbers[i / 4] += page.get(i) << (24 - 8 * (i % 4));
        }
        due("feed", x.feed(numbers[0], numbers[1], numbers[2], numbers[3], numbers[4]), 20);
        due("feed again", x.feed(numbers[5], numbers[6], numbers[7], numbers[8], numbers[9]), 40);
        due("feed: the PAGE is there", x.read(), -2);
        due("feed: one PAGE", x.look(0), 1);
        for (int i = 1; i <= 300; i++) {
            due("feed up to 6000", x.feed(-1, -1, -1, -1, -1), 20 * i);
        }
        due("feed behind 6000", x.feed(0, 0, 0, 0, 0), -1);
        due("feed behind 6000 leaves it", x.taped(), 6000);
        x.end(5981);
        due("feed to 6001", x.feed(0, 0, 0, 0, 0), -1);
        due("feed to 6001 leaves it", x.taped(), 5981);
        x.end(5980);
        due("feed to 6000", x.feed(0, 0, 0, 0, 0), 6000);
    }

    private static void promise3End() {
        Reader x = new Reader();
        due("end(0) of none", x.end(0), true);
        due("end(1) of none", x.end(1), false);
        x.feed(0, 0, 0, 0, 0);
        due("end(-1)", x.end(-1), false);
        due("end(least)", x.end(Integer.MIN_VALUE), false);
        due("end(21)", x.end(21), false);
        due("end: nothing happens", x.taped(), 20);
        due("end(20)", x.end(20), true);
        due("end(20) leaves all", x.taped(), 20);
        due("end(7)", x.end(7), true);
        due("end(7) leaves 7", x.taped(), 7);
        due("end(8) then", x.end(8), false);
        // The first bytes stay: a PACKET of 86 alone.
        x.end(0);
        x.feed(86 << 24 | 0x010203, 0, 0, 0, 0);
        x.end(1);
        x.page(0, 0, 0, 1, 0, false);
        due("end: the first byte stays", x.read(), -2);
        due("end: it alone", x.look(7), 1);
    }

    private static void promise4Harm() {
        Reader x = new Reader();
        x.feed(87 << 24, 0, 0, 0, 0);
        due("harm the first", x.harm(0, 1), true);
        due("harm the last", x.harm(19, 0), true);
        due("harm behind", x.harm(20, 1), false);
        due("harm ahead", x.harm(-1, 1), false);
        due("harm far behind", x.harm(Integer.MAX_VALUE, 1), false);
        x.page(0, 0, 0, 1, 0, false);
        due("harm: 87 became 86", x.read(), -4);
        // Only the lowest eight bits of b count.
        x.feed(86 << 24, 0, 0, 0, 0);
        due("harm with 256", x.harm(0, 0x7fffff00), true);
        x.end(1);
        x.page(0, 0, 0, 1, 0, false);
        due("harm with 256 turns nothing", x.read(), -2);
        // Every bit of a PAGE counts for its CRC; turned twice it is right again.
        for (int bit = 0; bit < 8 * 29; bit++) {
            Reader one = new Reader();
            one.feed(86 << 24, 0, 0, 0, 0);
            one.end(1);
            one.page(0, 0, 0, 1, 0, false);
            one.harm(bit / 8, 1 << (bit % 8));
            due("harm of bit " + bit, one.read(), -1);
        }
        x.feed(86 << 24, 0, 0, 0, 0);
        x.end(1);
        x.page(0, 0, 0, 1, 0, false);
        x.harm(28, 255);
        x.harm(28, 255);
        due("harm twice", x.read(), -2);
        x.feed(0, 0, 0, 0, 0);
        x.end(5);
        due("harm behind the end", x.harm(5, 1), false);
    }

    private static void promise5Page() {
        Reader x = new Reader();
        due("page(-1)", x.page(-1, 0, 0, 1, 0, false), -1);
        due("page(1) of none", x.page(1, 0, 0, 1, 0, false), -1);
        due("page of nothing", x.page(0, 0, 0, 1, 0, false), 28);
        due("page behind all, open", x.page(28, 0, 0, 1, 0, true), 55);
        x.end(0);
        int[] bodies = {1, 254, 255, 256, 509, 510, 511};
        for (int body : bodies) {
            Songs.lay(x, SongWriter.many(body, 3));
            due("page of " + body, x.page(0, 0, 0, 1, 0, false), body + 27 + body / 255 + 1);
            due("page of " + body + " reads", x.read(), -3);
            due("page of " + body + ": its PACKET", x.look(7), body);
            due("page of " + body + ": one PACKET", x.look(2), 1);
        }
        Songs.lay(x, SongWriter.many(255, 3));
        due("page, open and even", x.page(0, 0, 0, 1, 0, true), 255 + 28);
        due("page, open: nothing ends", x.read(), -1);
        due("page, open: it is a PAGE", x.look(0), 1);
        Songs.lay(x, SongWriter.many(256, 3));
        due("page, open and not even", x.page(0, 0, 0, 1, 0, true), -1);
        due("page, open and not even: nothing happens", x.taped(), 256);
        due("page from 1, open", x.page(1, 0, 0, 1, 0, true), 256 + 28);
        x.end(0);
        pageWritesItsFields(x);
    }

    /** Made by page(), and by hand by the document's words: both read alike, down to the GRANULE. */
    private static void pageWritesItsFields(Reader x) {
        List<Integer> setup = packet(plainSetup(1, 1));
        List<Integer> silence = SongWriter.row(0);
        long[] granules = {0, 1, 31, 32, 33, -1, Long.MIN_VALUE, 1L << 32, 5L << 40};
        int[] samples = {0, 1, 31, 32, 32, 32, 32, 32, 32};
        for (int i = 0; i < granules.length; i++) {
            layPage(x, 2, 0, -2, setup);
            layPage(x, 0, 0, -1, silence);
            layPage(x, 256, 0, 0, silence);
            layPage(x, 256 + 4, granules[i], 1, silence);
            due("page with GRANULE " + granules[i], x.read(), samples[i]);
        }
        Songs.lay(x, setup);
        x.page(0, 2, 0, 0xfedcba98, 0, false);
        Songs.lay(x, SongModel.pageOf(0, 0, 0xfedcba98, 1, SongWriter.row(1), SongWriter.row(0)));
        Songs.lay(x, SongModel.pageOf(0, 0, 0x7edcba98, 1, SongWriter.row(1), SongWriter.row(0)));
        x.read();
        due("page with SERIAL", x.look(0), 2);
        due("page with another SERIAL", x.look(1), 1);
    }

    private static void promise5PageAtItsLimits() {
        Reader x = new Reader();
        // 5949 bytes: 23 times 255 and 84, 24 LACES: 27 + 24 + 5949 is 6000.
        Songs.lay(x, SongWriter.many(5950, 1));
        due("page to 6001", x.page(0, 0, 0, 1, 0, false), -1);
        due("page to 6001: nothing happens", x.taped(), 5950);
        x.end(5949);
        due("page to 6000", x.page(0, 0, 0, 1, 0, false), 6000);
        due("page at 6000", x.page(6000, 0, 0, 1, 0, true), -1);
        due("page at 6001", x.page(6001, 0, 0, 1, 0, true), -1);
        due("page to 6000 reads", x.read(), -1);
        due("page to 6000 is right", x.look(0), 1);
        due("page to 6000: too long a PACKET", x.look(6), 1);
        Reader other = new Reader();
        Songs.lay(other, SongWriter.many(5973, 1));
        due("page to 6000, open", other.page(5973, 0, 0, 1, 0, true), 6000);
        due("page, no more room", other.page(5974, 0, 0, 1, 0, false), -1);
    }

    private static void promise6Pages() {
        Reader x = new Reader();
        List<Integer> setup = packet(plainSetup(1, 1));
        // Among anything: bytes that look like the start of a PAGE, a harmed PAGE, a right one inside it.
        Songs.lay(x, SongWriter.row(79, 79, 103, 79, 103, 103, 83, 0, 1));
        layPage(x, 0, 0, 0, setup);
        int harmed = x.taped();
        List<Integer> inner = SongModel.pageOf(0, 0, 1, 1, SongWriter.row(1), SongWriter.row(0));
        layPage(x, 0, 0, 1, inner);
        x.harm(harmed + 5, 8);
        layPage(x, 0, 0, 2, inner);
        due("PAGES among anything", x.read(), 16);
        due("PAGES among anything: right ones", x.look(0), 3);
        due("PAGES among anything: SOUND", x.look(3), 2);
        due("read uses the TAPE up", x.taped(), 0);
        due("read again", x.read(), -1);
        due("what was read before is gone", x.look(0), 0);
        // A PAGE that lies not wholly on the TAPE.
        layPage(x, 0, 0, 0, setup);
        x.end(x.taped() - 1);
        due("a PAGE cut short", x.read(), -1);
        // Another SERIAL counts for nothing, not even for NUMBER and LAST.
        layPage(x, 0, 0, 0, setup);
        layPage(x, 0, 0, 1, SongWriter.row(0));
        layPage(x, 0, 0, 2, SongWriter.row(0));
        x.page(x.taped(), 4, 3, 2, 9, false);
        due("another SERIAL's LAST", x.read(), 16);
        due("another SERIAL", x.look(1), 1);
        // Another first to fifth byte, and it is no PAGE, even if its CRC is right.
        for (int i = 0; i < 5; i++) {
            for (int turn = 1; turn < 256; turn *= 2) {
                List<Integer> page = SongModel.pageOf(0, 0, 1, 0, SongWriter.row(1), SongWriter.row(86));
                page.set(i, page.get(i) ^ turn);
                due("another byte " + i, readRightCrc(x, page), -1);
            }
        }
        // A PAGE of no LACES at the TAPE's end; one byte less, and it is none.
        x.page(0, 0, 0, 1, 0, true);
        x.read();
        due("a PAGE of 27 bytes", x.look(0), 1);
        x.page(0, 0, 0, 1, 0, true);
        x.end(26);
        x.read();
        due("26 bytes of a PAGE", x.look(0), 0);
    }

    /** The bytes with a CRC of their own, put right byte by byte by the document's words. */
    private static int readRightCrc(Reader x, List<Integer> page) {
        int row = 0;
        for (int i = 0; i < page.size(); i++) {
            row ^= (i >= 22 && i < 26 ? 0 : page.get(i)) << 24;
            for (int j = 0; j < 8; j++) {
                row = row < 0 ? row << 1 ^ 0x04c11db7 : row << 1;
            }
        }
        for (int i = 0; i < 4; i++) {
            page.set(22 + i, row >>> (8 * i) & 255);
        }
        Songs.lay(x, page);
        return x.read();
    }

    private static void openPage(Reader x, int flags, int number, int bytes) {
        int from = x.taped();
        Songs.lay(x, SongWriter.many(bytes, 7));
        x.page(from, flags, 0, 1, number, true);
    }

    private static void promise6PacketsOverPages() {
        Reader x = new Reader();
        openPage(x, 0, -1, 255);
        x.page(x.taped(), 1, 0, 1, 0, true);
        openPage(x, 1, 1, 255);
        layPage(x, 1, 0, 2, SongWriter.many(9, 7));
        due("a PACKET over PAGES, round at 32 bits, one of no LACES", x.read(), -3);
        due("a PACKET over PAGES: its bytes", x.look(7), 519);
        due("a PACKET over PAGES: one", x.look(2), 1);
        // A PACKET of just 255 ends with a LACE of 0, on the next PAGE too.
        openPage(x, 0, 4, 255);
        layPage(x, 1, 0, 5, new ArrayList<>());
        due("a PACKET of 255", x.read(), -3);
        due("a PACKET of 255: its bytes", x.look(7), 255);
        // Several PACKETS of one PAGE, the first of which goes on.
        openPage(x, 0, 0, 255);
        List<Integer> laces = SongWriter.row(2, 0, 3, 255);
        Songs.lay(x, SongModel.pageOf(1, 0, 1, 1, laces, SongWriter.many(260, 8)));
        due("many PACKETS of a PAGE", x.read(), -3);
        due("many PACKETS of a PAGE: what is begun at the end does not count", x.look(2), 3);
        due("many PACKETS of a PAGE: the longest", x.look(7), 257);
    }

    private static void promise6PacketsThrownAway() {
        Reader x = new Reader();
        // Not GOES ON: what is begun is thrown away, what the PAGE has counts.
        openPage(x, 0, 0, 255);
        layPage(x, 0, 0, 1, SongWriter.row(86));
        due("not GOES ON", x.read(), -2);
        due("not GOES ON: the new one", x.look(7), 1);
        // A wrong NUMBER: the rest of the PACKET is thrown away, too.
        openPage(x, 0, 0, 255);
        Songs.lay(x, SongModel.pageOf(1, 0, 1, 2, SongWriter.row(255, 4, 1), SongWriter.many(260, 86)));
        due("a wrong NUMBER", x.read(), -2);
        due("a wrong NUMBER: PACKETS", x.look(2), 1);
        // The first PAGE has GOES ON and nothing is begun; its LACES are all 255, so nothing is begun then, either.
        openPage(x, 1, 0, 255);
        Songs.lay(x, SongModel.pageOf(1, 0, 1, 1, SongWriter.row(5, 1), SongWriter.many(6, 86)));
        due("GOES ON of nothing", x.read(), -2);
        due("GOES ON of nothing: PACKETS", x.look(2), 1);
        // Without GOES ON a wrong NUMBER does no harm.
        layPage(x, 0, 0, 0, packet(plainSetup(1, 1)));
        layPage(x, 0, 0, 7, SongWriter.row(0));
        due("a wrong NUMBER, nothing begun", x.read(), 0);
        due("a wrong NUMBER, nothing begun: it counts", x.look(3), 1);
        // A PAGE of another SERIAL between does not part the NUMBERS.
        openPage(x, 0, 0, 255);
        x.page(x.taped(), 0, 0, 2, 0, false);
        layPage(x, 1, 0, 1, SongWriter.row(1));
        x.read();
        due("another SERIAL between", x.look(7), 256);
    }

    private static void promise6PacketLimits() {
        Reader x = new Reader();
        List<Integer> two = SongWriter.many(2000, 86);
        readSong(x, two);
        due("a PACKET of 2000", x.look(2), 1);
        due("a PACKET of 2000: its bytes", x.look(7), 2000);
        due("a PACKET of 2001 is thrown away", readSong(x, SongWriter.many(2001, 86), SongWriter.row(1)), -3);
        due("a PACKET of 2001: told", x.look(6), 1);
        due("a PACKET of 2001: those that count", x.look(2), 1);
        due("a PACKET of 2001: the longest is another", x.look(7), 1);
        // Too long and without an end: not told; thrown away by a PAGE without GOES ON: not told.
        openPage(x, 0, 0, 2040);
        x.read();
        due("too long, no end", x.look(6), 0);
        openPage(x, 0, 0, 2040);
        layPage(x, 0, 0, 1, SongWriter.row(1));
        x.read();
        due("too long, thrown away", x.look(6), 0);
        due("too long, thrown away: the next counts", x.look(2), 1);
        // All of it up to its end: over PAGES.
        Reader over = new Reader();
        openPage(over, 0, 0, 2040);
        openPage(over, 1, 1, 255);
        Songs.lay(over, SongModel.pageOf(1, 0, 1, 2, SongWriter.row(2, 1), SongWriter.row(86, 86, 86)));
        due("too long, over PAGES", over.read(), -2);
        due("too long, over PAGES: told", over.look(6), 1);
        due("too long, over PAGES: the rest", over.look(2), 1);
        sixtyPackets();
    }

    private static void sixtyPackets() {
        Reader x = new Reader();
        layPage(x, 0, 0, 0, packet(plainSetup(1, 1)));
        Songs.lay(x, SongModel.pageOf(0, 0, 1, 1, SongWriter.many(59, 1), SongWriter.many(59, 0)));
        Songs.lay(x, SongModel.pageOf(0, 0, 1, 2, SongWriter.row(9, 0), SongWriter.many(9, 0)));
        Songs.lay(x, SongModel.pageOf(0, 0, 1, 3, SongWriter.row(255, 255, 255, 255, 255, 255, 255, 255, 0),
            SongWriter.many(2040, 0)));
        due("60 PACKETS count", x.read(), 58 * 16);
        due("60 PACKETS count: told", x.look(2), 60);
        due("60 PACKETS count: SOUNDS", x.look(3), 59);
        due("60 PACKETS count: passed over", x.look(4), 0);
        due("60 PACKETS count: too long a one behind them", x.look(6), 1);
        due("60 PACKETS count: PAGES", x.look(0), 4);
    }

    private static void promise6SetupFaults() {
        Reader x = new Reader();
        due("no PACKET", x.read(), -1);
        due("an empty PACKET", readSong(x, new ArrayList<>()), -2);
        due("not 86", setupFault(new SongWriter().put(85, 8)), -3);
        due("a fault leaves no CHANNELS", x.look(5), 0);
        SongWriter whole = new SongWriter().start(2, 2).book(1, 1, 1).lengths(2, 2, 2, 2, 2).values(-128, 255, true, 8, 255, 0)
            .posts(3, 1, 15, 1).classes(1, 0, 1, 15).put(1, 1);
        due("a whole SETUP", setupFault(whole), 0);
        List<Integer> bytes = whole.bytes();
        for (int cut = 0; cut < bytes.size(); cut++) {
            due("a SETUP of " + cut + " bytes", readSong(x, new ArrayList<>(bytes.subList(0, cut))), -2);
            due("a SETUP cut short has no CHANNELS", x.look(5), 0);
        }
        List<Integer> more = new ArrayList<>(bytes);
        more.addAll(SongWriter.many(30, 255));
        due("what comes behind does not count", readSong(x, more), 0);
        leaningBitIsNeeded(x);
        bookNumbers();
        xFaults();
        classFaults();
    }

    private static void leaningBitIsNeeded(Reader x) {
        for (int channels = 1; channels <= 2; channels++) {
            SongWriter bits = new SongWriter().start(channels, 1).book(1, 1, 1).posts(1, 0, 1, 2, 3).classes(0, 0, 8);
            due("bits come out even", bits.bits() % 8, 0);
            due("the bit of LEANING, CHANNELS " + channels, readSong(x, bits.bytes()), channels == 1 ? 0 : -2);
        }
    }

    private static void bookNumbers() {
        due("POSTS' BOOK", setupFault(new SongWriter().start(1, 2).book(1, 1, 1).book(1, 1, 1).posts(1, 2)), -5);
        due("POSTS' BOOK 7", setupFault(new SongWriter().start(1, 1).book(1, 1, 1).posts(1, 7, 0)), -5);
        due("CLASSES' BOOK", setupFault(new SongWriter().start(1, 1).book(1, 1, 1).posts(1, 0).classes(0, 1, 1)), -5);
        SongWriter values = new SongWriter().start(1, 1).lengths(1, 1, 1).values(0, 1, false, 1, 0, 1).posts(1, 0);
        due("a CLASS' BOOK", setupFault(values.classes(0, 0, 0, 1)), -5);
        for (int none = 8; none < 16; none++) {
            due("a CLASS of BOOK " + none, setupFault(new SongWriter().start(1, 1).book(1, 1, 1).posts(1, 0).classes(0, 0, none)), 0);
        }
        // All eight BOOKS may be named.
        SongWriter eight = new SongWriter().start(1, 8);
        for (int i = 0; i < 7; i++) {
            eight.book(1, 1, 1);
        }
        eight.lengths(1, 1, 1).values(0, 1, false, 1, 0, 1).posts(1, 7).classes(0, 7, 7);
        due("BOOK 7 of eight", setupFault(eight), 0);
    }

    private static void xFaults() {
        int[][] wrongXs = {{0}, {16}, {31}, {5, 5}, {1, 2, 3, 1}, {15, 16}};
        for (int[] xs : wrongXs) {
            due("X of " + xs[xs.length - 1], setupFault(new SongWriter().start(1, 1).book(1, 1, 1).posts(1, 0, xs)), -6);
        }
        SongWriter all = new SongWriter().start(1, 1).book(1, 1, 1)
            .posts(1, 0, 15, 1, 14, 2, 13, 3, 12, 4, 11, 5, 10, 6, 9, 7, 8).classes(0, 0, 8);
        due("all fifteen X", setupFault(all), 0);
    }

    private static void classFaults() {
        due("a CLASS' BOOK without VALUES", setupFault(new SongWriter().start(1, 1).book(1, 1, 1).posts(1, 0).classes(0, 0, 0)), -7);
        int[] numbers = {4, 2, 1, 1};
        for (int width = 1; width <= 4; width++) {
            for (int sizeNumber = 0; sizeNumber < 4; sizeNumber++) {
                int[] some = new int[numbers[width - 1]];
                SongWriter setup = new SongWriter().start(1, 1).lengths(width, 2, 2, 2, 2).values(0, 1, false, 1, some)
                    .posts(1, 0).classes(sizeNumber, 0, 0);
                due("WIDTH " + width + " of SIZE " + (1 << sizeNumber), setupFault(setup), (1 << sizeNumber) % width == 0 ? 0 : -7);
            }
        }
    }

    private static void promise6BookTrees() {
        due("two of 1", treeFault(1, 1), 0);
        due("one of 1", treeFault(1), 0);
        due("one of 1 among others", treeFault(0, 0, 1, 0), 0);
        due("one of 2", treeFault(2), -4);
        due("none", treeFault(0, 0), -4);
        due("too many", treeFault(1, 1, 1), -4);
        due("too few", treeFault(1, 2), -4);
        due("too few of 15", treeFault(1, 2, 3, 4, 5, 6, 7, 8, 9, 10, 11, 12, 13, 14, 15), -4);
        due("down to 15", treeFault(1, 2, 3, 4, 5, 6, 7, 8, 9, 10, 11, 12, 13, 14, 15, 15), 0);
        due("up from 15", treeFault(15, 15, 14, 13, 12, 11, 10, 9, 8, 7, 6, 5, 4, 3, 2, 1), 0);
        due("too long by one of 15", treeFault(15, 15, 14, 13, 12, 11, 10, 9, 8, 7, 6, 5, 4, 3, 2, 1, 15), -4);
        int[] sixes = new int[64];
        java.util.Arrays.fill(sixes, 6);
        due("64 of 6", treeFault(sixes), 0);
        sixes[63] = 0;
        due("63 of 6", treeFault(sixes), -4);
        sixes[63] = 5;
        due("63 of 6 and a 5", treeFault(sixes), -4);
        java.util.Arrays.fill(sixes, 15);
        due("64 of 15", treeFault(sixes), -4);
        // More forks than a whole tree of 64 has, the last of them in the midst of a word.
        int[] deep = new int[56];
        java.util.Arrays.fill(deep, 15);
        deep[54] = 14;
        due("54 of 15, a 14, a 15", treeFault(deep), -4);
        // Known behind its LENGTHS: no bit comes behind them here.
        SongWriter ends = new SongWriter().start(1, 1).lengths(1, 1, 2, 2, 1, 1);
        due("bits come out even", ends.bits() % 8, 0);
        due("a wrong tree ahead of the end", setupFault(ends), -4);
        // The words: of lengths 2 1 3 3 they are 00 1 010 011; numbers 10 20 40 80 tell which was read.
        SongWriter setup = new SongWriter().start(1, 2).lengths(1, 2, 0, 1, 3, 3).values(0, 1, false, 7, 10, 99, 20, 40, 80)
            .book(1, 1).posts(1, 1).classes(0, 1, 0);
        String[] words = {"00", "1", "010", "011"};
        int[] values = {10, 20, 40, 80};
        for (int i = 0; i < words.length; i++) {
            dueOneNumber("word " + words[i], setup, new SongWriter().put(1, 1).put(255, 8).put(255, 8)
                .word("0").word(words[i]).word("1"), values[i]);
        }
    }

    private static int treeFault(int... lengths) {
        return setupFault(new SongWriter().start(1, 1).book(1, lengths).posts(1, 0).classes(0, 0, 8));
    }

    /** A SOUND whose number at k = 0 is this one, at full height; silence ahead and behind. */
    private static void dueOneNumber(String what, SongWriter setup, SongWriter sound, long number) {
        dueOneFactor(what, setup, sound, number * 256);
    }

    private static void dueOneFactor(String what, SongWriter setup, SongWriter sound, long factor) {
        Reader x = new Reader();
        List<Integer> silence = SongWriter.row(0);
        due(what, readSong(x, setup.bytes(), silence, sound.bytes(), silence), 32);
        long[] halves = halvesOf(factor);
        for (int n = 0; n < 32; n++) {
            due(what + ", SAMPLE " + n, x.sample(0, n), held(halves[n]));
        }
    }

    private static void promise6Values() {
        // WIDTH 2 of 6 ENTRIES: q is 2; ENTRY 5 is (5 modulo 2, 2 modulo 2); SIZE 2.
        for (int adding = 0; adding < 2; adding++) {
            for (int entry = 0; entry < 6; entry++) {
                String[] words = {"000", "001", "010", "011", "10", "11"};
                SongWriter setup = new SongWriter().start(1, 2).lengths(2, 3, 3, 3, 3, 2, 2)
                    .values(-3, 5, adding == 1, 3, 7, 1).book(1, 1).posts(1, 1).classes(1, 1, 0);
                int[] numbers = {7, 1};
                int first = numbers[entry % 2] * 5 - 3;
                int second = numbers[entry / 2 % 2] * 5 - 3 + (adding == 1 ? first : 0);
                Reader x = new Reader();
                SongWriter sound = new SongWriter().put(1, 1).put(255, 8).put(255, 8).word("0").word(words[entry]).word("1");
                readSong(x, setup.bytes(), SongWriter.row(0), sound.bytes());
                dueNumbers("ENTRY " + entry + (adding == 1 ? " adding" : ""), x, first, second);
            }
        }
        // LEAST has a sign, STEP has none: 1 times 200 and - 128.
        SongWriter signs = new SongWriter().start(1, 2).lengths(1, 1, 1).values(-128, 200, false, 1, 1, 0)
            .book(1, 1).posts(1, 1).classes(0, 1, 0);
        SongWriter sound = new SongWriter().put(1, 1).put(255, 8).put(255, 8);
        for (int k = 0; k < 16; k++) {
            sound.word("0").word(k == 0 ? "0" : "1");
        }
        Reader x = new Reader();
        readSong(x, signs.bytes(), SongWriter.row(0), sound.bytes());
        long[] numbers = new long[16];
        java.util.Arrays.fill(numbers, -128);
        numbers[0] = 72;
        dueNumbers("LEAST and STEP", x, numbers);
        // At ADDING nothing is ahead of place 0 of the next ENTRY: WIDTH 1 adds nothing.
        SongWriter alone = new SongWriter().start(1, 2).lengths(1, 1, 1).values(4, 1, true, 1, 1, 0)
            .book(1, 1).posts(1, 1).classes(0, 1, 0);
        SongWriter two = new SongWriter().put(1, 1).put(255, 8).put(255, 8).word("00").word("01").word("00").word("1");
        readSong(x, alone.bytes(), SongWriter.row(0), two.bytes());
        dueNumbers("ADDING with WIDTH 1", x, 5, 4, 5);
    }

    /** The SAMPLES of one SOUND behind silence, at full height, from its numbers, by the document's sums. */
    private static void dueNumbers(String what, Reader x, long... numbers) {
        long[] factors = new long[16];
        for (int k = 0; k < 16 && k < numbers.length; k++) {
            factors[k] = numbers[k] * 256;
        }
        dueFactors(what, x, 0, factors);
    }

    private static void dueFactors(String what, Reader x, int channel, long[] factors) {
        int[] window = {15, 138, 379, 726, 1160, 1652, 2167, 2665, 3110, 3476, 3748, 3928, 4031, 4078, 4094, 4096};
        for (int n = 0; n < 16; n++) {
            long total = 2048;
            for (int k = 0; k < 16; k++) {
                total += factors[k] * Math.round(4096 * Math.cos((2 * n + 17) * (2 * k + 1) * Math.PI / 64));
            }
            long half = Math.floorDiv(Math.floorDiv(total, 4096L) * window[n], 4096L);
            due(what + ", SAMPLE " + n, x.sample(channel, n), held(half));
        }
    }

    private static long table(int place) {
        long value = 65536;
        for (int i = 254; i >= place; i--) {
            value = (15391 * value + 8192) >> 14;
        }
        return value;
    }

    /** A SETUP whose sixteen numbers are all 1000, with these POSTS by a BOOK of eight ENTRIES. */
    private static SongWriter curveSetup(int multiplier, int... xs) {
        return new SongWriter().start(1, 3).lengths(1, 1).values(100, 100, false, 4, 9).book(1, 3, 3, 3, 3, 3, 3, 3, 3)
            .book(1, 1).posts(multiplier, 1, xs).classes(0, 2, 0);
    }

    private static void dueHeights(String what, SongWriter setup, SongWriter curve, int... heights) {
        Reader x = new Reader();
        for (int i = 0; i < 32; i++) {
            curve.word("0");
        }
        readSong(x, setup.bytes(), SongWriter.row(0), curve.bytes());
        long[] factors = new long[16];
        for (int k = 0; k < 16; k++) {
            factors[k] = (1000 * table(heights[k])) >> 8;
        }
        dueFactors(what, x, 0, factors);
    }

    private static String entry(int v) {
        return Integer.toBinaryString(8 + v).substring(1);
    }

    private static void promise6Curves() {
        dueHeights("a line up", curveSetup(1), new SongWriter().put(1, 1).put(200, 8).put(240, 8),
            200, 202, 205, 207, 210, 212, 215, 217, 220, 222, 225, 227, 230, 232, 235, 237);
        dueHeights("a line down", curveSetup(1), new SongWriter().put(1, 1).put(240, 8).put(200, 8),
            240, 238, 235, 233, 230, 228, 225, 223, 220, 218, 215, 213, 210, 208, 205, 203);
        dueHeights("MULTIPLIER 2", curveSetup(2), new SongWriter().put(1, 1).put(127, 7).put(127, 7),
            254, 254, 254, 254, 254, 254, 254, 254, 254, 254, 254, 254, 254, 254, 254, 254);
        dueHeights("MULTIPLIER 3 holds 85", curveSetup(3), new SongWriter().put(1, 1).put(127, 7).put(69, 7),
            255, 252, 249, 246, 243, 240, 237, 234, 231, 228, 225, 222, 219, 216, 213, 210);
        dueHeights("MULTIPLIER 4", curveSetup(4), new SongWriter().put(1, 1).put(63, 6).put(63, 6),
            252, 252, 252, 252, 252, 252, 252, 252, 252, 252, 252, 252, 252, 252, 252, 252);
        // X 8 of 220 to 220: V 1 is 219, 2 is 221, 3 is 218; ROOM is 72.
        dueHeights("V odd", curveSetup(1, 8), new SongWriter().put(1, 1).put(220, 8).put(220, 8).word(entry(3)),
            220, 220, 220, 220, 219, 219, 219, 219, 218, 218, 218, 218, 219, 219, 219, 219);
        dueHeights("V even", curveSetup(1, 8), new SongWriter().put(1, 1).put(220, 8).put(220, 8).word(entry(4)),
            220, 220, 220, 220, 221, 221, 221, 221, 222, 222, 222, 222, 221, 221, 221, 221);
        // V 0 is not drawn: the line from 0 to 16 stays; X 8 foretold 205, drawn it would bend.
        dueHeights("V 0", curveSetup(1, 8), new SongWriter().put(1, 1).put(200, 8).put(211, 8).word(entry(0)),
            200, 200, 201, 202, 202, 203, 204, 204, 205, 206, 206, 207, 208, 208, 209, 210);
        // X 4 leans on X 8, which V 0 did not draw; now it is drawn, at what was foretold (205).
        dueHeights("V 0 drawn by another", curveSetup(1, 8, 4),
            new SongWriter().put(1, 1).put(200, 8).put(211, 8).word(entry(0)).word(entry(2)),
            200, 200, 201, 202, 203, 203, 204, 204, 205, 205, 206, 207, 208, 208, 209, 210);
        // X 12 first, then 4: its HIGH is 12, not 16.
        dueHeights("HIGH of those ahead", curveSetup(1, 12, 4),
            new SongWriter().put(1, 1).put(200, 8).put(200, 8).word(entry(6)).word(entry(1)),
            200, 200, 200, 200, 200, 200, 200, 201, 201, 201, 202, 202, 203, 203, 202, 201);
    }

    private static void promise6PostsBehindRoom() {
        // R 256, FORETOLD 254: UP 2, DOWN 254, ROOM 4; V from 4 on: 254 + 2 - V - 1.
        dueHeights("V behind ROOM, less UP", curveSetup(1, 8), new SongWriter().put(1, 1).put(254, 8).put(254, 8).word(entry(7)),
            254, 254, 253, 252, 251, 251, 250, 249, 248, 248, 249, 250, 251, 251, 252, 253);
        dueHeights("V at ROOM", curveSetup(1, 8), new SongWriter().put(1, 1).put(254, 8).put(254, 8).word(entry(4)),
            254, 254, 254, 253, 253, 253, 252, 252, 251, 251, 251, 252, 252, 252, 253, 253);
        dueHeights("V ahead of ROOM", curveSetup(1, 8), new SongWriter().put(1, 1).put(254, 8).put(254, 8).word(entry(3)),
            254, 254, 254, 254, 253, 253, 253, 253, 252, 252, 252, 252, 253, 253, 253, 253);
        // MULTIPLIER 4, R 64, by a BOOK of 64 ENTRIES. FORETOLD 28: UP 36, DOWN 28, ROOM 56: V 60 gives 60.
        dueHeights("V behind ROOM, less DOWN", highSetup(), new SongWriter().put(1, 1).put(28, 6).put(28, 6).word(sixBits(60)),
            112, 128, 144, 160, 176, 192, 208, 224, 240, 224, 208, 192, 176, 160, 144, 128);
        // FORETOLD 32: UP and DOWN are 32, so UP is not above DOWN; ROOM is 64, which no V is from on.
        dueHeights("V 63 ahead of ROOM", highSetup(), new SongWriter().put(1, 1).put(32, 6).put(32, 6).word(sixBits(63)),
            128, 112, 96, 80, 64, 48, 32, 16, 0, 16, 32, 48, 64, 80, 96, 112);
        dueHeights("V 62 ahead of ROOM", highSetup(), new SongWriter().put(1, 1).put(32, 6).put(32, 6).word(sixBits(62)),
            128, 140, 156, 172, 188, 204, 220, 236, 252, 240, 224, 208, 192, 176, 160, 144);
    }

    private static SongWriter highSetup() {
        int[] lengths = new int[64];
        java.util.Arrays.fill(lengths, 6);
        return new SongWriter().start(1, 3).lengths(1, 1).values(100, 100, false, 4, 9).book(1, lengths)
            .book(1, 1).posts(4, 1, 8).classes(0, 2, 0);
    }

    private static String sixBits(int v) {
        return Integer.toBinaryString(64 + v).substring(1);
    }

    private static void promise6Rests() {
        // SIZE 4: four parts; CLASSES 2: ENTRY modulo 2; CLASS 1 has no BOOK.
        SongWriter setup = new SongWriter().start(1, 2).lengths(2, 2, 2, 2, 2).values(0, 10, false, 2, 1, 3)
            .book(1, 2, 2, 2, 2).posts(1, 1).classes(2, 1, 0, 9);
        // Part 0: ENTRY 0, CLASS 0: ENTRIES 1 and 2: 30 10, 10 30. Part 1: ENTRY 3: none. Part 2: ENTRY 2: CLASS 0.
        SongWriter sound = new SongWriter().put(1, 1).put(255, 8).put(255, 8)
            .word("00").word("01").word("10").word("11").word("10").word("11").word("00").word("01");
        Reader x = new Reader();
        readSong(x, setup.bytes(), SongWriter.row(0), sound.bytes());
        dueNumbers("RESTS", x, 30, 10, 10, 30, 0, 0, 0, 0, 30, 30, 10, 10, 0, 0, 0, 0);
        // Without LEANING a SILENT CHANNEL tells no numbers: what comes is the second's.
        SongWriter two = new SongWriter().start(2, 2).lengths(1, 1, 1).values(0, 100, false, 1, 1, 0)
            .book(1, 1).posts(1, 1).classes(0, 1, 0).put(0, 1);
        SongWriter second = new SongWriter().put(0, 1).put(1, 1).put(255, 8).put(255, 8).word("0").word("0");
        for (int k = 1; k < 16; k++) {
            second.word("0").word("1");
        }
        readSong(x, two.bytes(), SongWriter.row(0), second.bytes());
        dueFactors("the first is SILENT", x, 0, new long[16]);
        long[] factors = new long[16];
        factors[0] = 25600;
        dueFactors("the second is heard", x, 1, factors);
        // Both: the first's sixteen numbers come ahead of the second's.
        SongWriter both = new SongWriter().put(1, 1).put(255, 8).put(255, 8).put(1, 1).put(255, 8).put(255, 8);
        for (int k = 0; k < 32; k++) {
            both.word("0").word(k == 3 || k == 20 ? "0" : "1");
        }
        readSong(x, two.bytes(), SongWriter.row(0), both.bytes());
        long[] third = new long[16];
        third[3] = 25600;
        long[] fourth = new long[16];
        fourth[4] = 25600;
        dueFactors("both heard, the first", x, 0, third);
        dueFactors("both heard, the second", x, 1, fourth);
    }

    private static void promise6Leaning() {
        for (int m = -1; m <= 1; m++) {
            for (int a = -1; a <= 1; a++) {
                SongWriter setup = new SongWriter().start(2, 2).lengths(1, 1, 2, 2).values(-1, 1, false, 2, 0, 1, 2)
                    .book(1, 1).posts(1, 1).classes(0, 1, 0).put(1, 1);
                String[] words = {"0", "10", "11"};
                SongWriter sound = new SongWriter().put(1, 1).put(255, 8).put(255, 8)
                    .put(1, 1).put(255, 8).put(255, 8);
                int[][] told = new int[2][16];
                for (int k = 0; k < 16; k++) {
                    told[0][k] = m;
                    sound.word("0").word(words[m + 1]);
                }
                for (int k = 0; k < 16; k++) {
                    told[1][k] = a;
                    sound.word("0").word(words[a + 1]);
                }
                Reader x = new Reader();
                readSong(x, setup.bytes(), SongWriter.row(0), sound.bytes());
                dueLeaning("LEANING of " + m + " and " + a, x, told, -1);
            }
        }
        leaningOfAll();
    }

    private static void leaningOfAll() {
        int[] kinds = {50, 20, 0, -20, -50};
        SongWriter setup = new SongWriter().start(2, 2).lengths(1, 3, 3, 2, 2, 2).values(-50, 10, false, 4, 10, 7, 5, 3, 0)
            .book(1, 1).posts(1, 1).classes(0, 1, 0).put(1, 1);
        String[] words = {"000", "001", "01", "10", "11"};
        int[][] told = new int[2][16];
        for (int silent = 0; silent < 3; silent++) {
            SongWriter sound = new SongWriter();
            for (int c = 0; c < 2; c++) {
                boolean heard = silent - 1 != c;
                sound.put(heard ? 1 : 0, 1).put(255, heard ? 8 : 0).put(255, heard ? 8 : 0);
            }
            for (int c = 0; c < 2; c++) {
                for (int k = 0; k < 16; k++) {
                    int which = c == 0 ? k / 4 + k / 15 : (k + k / 4) % 5;
                    told[c][k] = kinds[which];
                    sound.word("0").word(words[which]);
                }
            }
            Reader x = new Reader();
            due("LEANING", readSong(x, setup.bytes(), SongWriter.row(0), sound.bytes()), 16);
            dueLeaning("LEANING, SILENT " + (silent - 1), x, told, silent - 1);
        }
    }

    private static void dueLeaning(String what, Reader x, int[][] told, int silent) {
        long[] first = new long[16];
        long[] second = new long[16];
        for (int k = 0; k < 16; k++) {
            int m = told[0][k];
            int a = told[1][k];
            int[] pair = m > 0 ? (a > 0 ? new int[] {m, m - a} : new int[] {m + a, m})
                : (a > 0 ? new int[] {m, m + a} : new int[] {m - a, m});
            first[k] = silent == 0 ? 0 : pair[0] * 256L;
            second[k] = silent == 1 ? 0 : pair[1] * 256L;
        }
        dueFactors(what + ", the first", x, 0, first);
        dueFactors(what + ", the second", x, 1, second);
    }

    private static void promise6EarlyEnds() {
        Reader x = new Reader();
        SongWriter setup = new SongWriter().start(1, 2).lengths(1, 1, 1).values(50, 50, false, 1, 1, 0)
            .book(1, 0, 1).posts(1, 1, 8).classes(0, 1, 0);
        List<Integer> silence = SongWriter.row(0);
        // In what tells the CURVES: 1, 8 and 8 bits, then a POST of one ENTRY.
        due("no bit at all", readSong(x, setup.bytes(), new ArrayList<>(), silence, silence), 16);
        due("no bit at all: passed over", x.look(4), 1);
        due("an end in Y", readSong(x, setup.bytes(), silence, SongWriter.row(255, 255), silence), 16);
        due("an end in Y: passed over", x.look(4), 1);
        due("an end in Y: counted", x.look(3), 2);
        SongWriter cannot = new SongWriter().put(1, 1).put(255, 8).put(255, 8).word("1").word("0000000");
        due("an ENTRY that cannot be, in a CURVE", readSong(x, setup.bytes(), silence, cannot.bytes(), silence), 16);
        due("an ENTRY that cannot be, in a CURVE: passed over", x.look(4), 1);
        // In RESTS: POST (ENTRY 1), then class, number; class, number; then 1 in the CLASSES' BOOK.
        SongWriter rests = new SongWriter().put(1, 1).put(255, 8).put(255, 8).word("0")
            .word("0").word("0").word("0").word("1").word("1").word("000000000000000000000");
        due("an ENTRY that cannot be, in RESTS", readSong(x, setup.bytes(), silence, rests.bytes()), 16);
        due("an ENTRY that cannot be, in RESTS: counted", x.look(3), 2);
        due("an ENTRY that cannot be, in RESTS: not passed over", x.look(4), 0);
        // V is 1: X 8 becomes 254; at X 0 and 1 the line is still at 255.
        long[] factors = new long[16];
        factors[0] = (100 * table(255)) >> 8;
        factors[1] = (50 * table(255)) >> 8;
        dueFactors("an ENTRY that cannot be, in RESTS", x, 0, factors);
        endsInRests(x);
    }

    private static void endsInRests(Reader x) {
        // Two CHANNELS, both heard; the end is in the first's numbers: the second's are 0, too.
        SongWriter setup = new SongWriter().start(2, 2).lengths(1, 1, 1).values(50, 50, false, 1, 1, 0)
            .book(1, 1).posts(1, 1).classes(0, 1, 0).put(0, 1);
        SongWriter sound = new SongWriter().put(1, 1).put(255, 8).put(255, 8).put(1, 1).put(255, 8).put(255, 8)
            .word("01").word("00").word("0");
        due("bits", sound.bits(), 39);
        sound.word("1");
        readSong(x, setup.bytes(), SongWriter.row(0), sound.bytes());
        long[] factors = new long[16];
        factors[0] = 50 * 256;
        factors[1] = 100 * 256;
        factors[2] = 50 * 256;
        dueFactors("an end in RESTS", x, 0, factors);
        dueFactors("an end in RESTS, the second CHANNEL", x, 1, new long[16]);
        // The second CHANNEL's CURVE ends early: the whole PACKET is passed over.
        due("an end in the second's CURVE", readSong(x, setup.bytes(), SongWriter.row(0), SongWriter.row(255, 255, 255), SongWriter.row(0)), 16);
        due("an end in the second's CURVE: passed over", x.look(4), 1);
        due("an end in the second's CURVE: nothing is heard", x.sum(0), 0);
    }

    private static void promise6Sums() {
        SongWriter setup = new SongWriter().start(1, 2).lengths(1, 1, 1).values(-128, 255, false, 8, 255, 0)
            .book(1, 1).posts(1, 1).classes(0, 1, 0);
        // Each k alone, loud: the SAMPLES are held; and low: every cosine shows.
        for (int height = 0; height < 256; height += 51) {
            for (int loud = 0; loud < 16; loud++) {
                SongWriter sound = new SongWriter().put(1, 1).put(height, 8).put(height, 8);
                long[] factors = new long[16];
                for (int k = 0; k < 16; k++) {
                    sound.word("0").word(k == loud ? "0" : "1");
                    factors[k] = ((k == loud ? 255 * 255 - 128 : -128) * table(height)) >> 8;
                }
                Reader x = new Reader();
                readSong(x, setup.bytes(), SongWriter.row(0), sound.bytes());
                dueFactors("SUMS of k " + loud + " at height " + height, x, 0, factors);
            }
        }
    }

    private static void promise6Out() {
        SongWriter setup = new SongWriter().start(1, 2).lengths(1, 1, 1).values(0, 200, false, 8, 255, 0)
            .book(1, 1).posts(1, 1).classes(0, 1, 0);
        SongWriter sound = new SongWriter().put(1, 1).put(220, 8).put(220, 8).word("0").word("0");
        for (int k = 1; k < 16; k++) {
            sound.word("0").word("1");
        }
        Reader x = new Reader();
        List<Integer> nothing = new ArrayList<>();
        due("one SOUND gives nothing", readSong(x, setup.bytes(), sound.bytes()), 0);
        // What is passed over between leaves the halves as they lie.
        due("halves over one another", readSong(x, setup.bytes(), sound.bytes(), nothing, sound.bytes(), sound.bytes()), 32);
        long[] halves = halvesOf((51000 * table(220)) >> 8);
        for (int n = 0; n < 32; n++) {
            due("halves over one another, SAMPLE " + n, x.sample(0, n), held(halves[16 + n % 16] + halves[n % 16]));
        }
        SongWriter loud = new SongWriter().put(1, 1).put(255, 8).put(255, 8).word("00000000");
        readSong(x, setup.bytes(), SongWriter.row(0), loud.bytes(), SongWriter.row(0));
        boolean most = false;
        boolean least = false;
        for (int i = 0; i < 32; i++) {
            most = most || x.sample(0, i) == 32767;
            least = least || x.sample(0, i) == -32768;
        }
        due("held at 32767", most, true);
        due("held at - 32768", least, true);
    }

    private static void promise6EndCut() {
        List<Integer> setup = packet(plainSetup(2, 1).put(0, 1));
        long[] granules = {0, 1, 15, 31, 32, 100, -1, Long.MIN_VALUE, Long.MAX_VALUE, 1L << 32, (1L << 32) + 3};
        int[] samples = {0, 1, 15, 31, 32, 32, 32, 32, 32, 32, 32};
        for (int i = 0; i < granules.length; i++) {
            for (int flags = 0; flags < 8; flags++) {
                boolean last = flags >= 4;
                Reader x = new Reader();
                layPage(x, 0, 5, 0, setup);
                layPage(x, 4, 5, 1, SongWriter.row(0));
                layPage(x, 0, 5, 2, SongWriter.row(0));
                layPage(x, 0, 5, 3, SongWriter.row(0));
                // Behind the last PACKET, so that GOES ON throws nothing away.
                x.page(x.taped(), flags, granules[i], 1, 4, true);
                due("GRANULE " + granules[i] + " FLAGS " + flags, x.read(), last ? samples[i] : 32);
                due("GRANULE: the SOUNDS stay", x.look(3), 3);
            }
        }
    }

    private static Reader loudSong() {
        Reader x = new Reader();
        SongWriter setup = new SongWriter().start(2, 2).lengths(1, 1, 1).values(20, 200, false, 8, 255, 0)
            .book(1, 1).posts(1, 1).classes(0, 1, 0).put(0, 1);
        SongWriter sound = new SongWriter().put(1, 1).put(200, 8).put(255, 8).put(1, 1).put(220, 8).put(210, 8)
            .word("00").word("01").word("00");
        for (int k = 3; k < 32; k++) {
            sound.word("0").word(k % 5 == 0 ? "0" : "1");
        }
        layPage(x, 0, 0, 0, setup.bytes());
        layPage(x, 0, 0, 1, sound.bytes());
        layPage(x, 0, 0, 2, sound.bytes());
        layPage(x, 4, 30, 3, sound.bytes());
        due("a loud song", x.read(), 30);
        return x;
    }

    private static void promise7Sample() {
        Reader x = loudSong();
        due("sample: the last is none of 0", x.sample(0, 29) != 0, true);
        due("sample behind the cut", x.sample(0, 30), 0);
        due("sample behind all", x.sample(1, 32), 0);
        due("sample(-1)", x.sample(0, -1), 0);
        due("sample of CHANNEL 1", x.sample(1, 3) != 0, true);
        due("sample of CHANNEL 2", x.sample(2, 3), 0);
        due("sample of CHANNEL -1", x.sample(-1, 3), 0);
        due("sample far", x.sample(Integer.MAX_VALUE, Integer.MIN_VALUE), 0);
        due("CHANNELS differ", x.sample(0, 3) != x.sample(1, 3), true);
        x.feed(0, 0, 0, 0, 0);
        due("sample stays until read", x.sample(0, 29) != 0, true);
        x.read();
        due("sample is gone behind read", x.sample(0, 3), 0);
    }

    private static void promise8Look() {
        Reader x = loudSong();
        int[] looks = {4, 0, 4, 3, 0, 2, 0, 13};
        for (int what = 0; what < 8; what++) {
            due("look " + what, x.look(what), looks[what]);
        }
        due("look 8", x.look(8), -1);
        due("look -1", x.look(-1), -1);
        due("look most", x.look(Integer.MAX_VALUE), -1);
        due("look least", x.look(Integer.MIN_VALUE), -1);
        x.feed(0, 0, 0, 0, 0);
        due("look is of the latest read", x.look(2), 4);
        x.read();
        for (int what = 0; what < 8; what++) {
            due("look of an empty read " + what, x.look(what), 0);
        }
        // With a FAULT the PACKETS count, the SOUNDS do not.
        readSong(x, SongWriter.row(1), SongWriter.row(0), new ArrayList<>());
        int[] faulty = {3, 0, 3, 0, 0, 0, 0, 1};
        for (int what = 0; what < 8; what++) {
            due("look with a FAULT " + what, x.look(what), faulty[what]);
        }
    }

    private static void promise9Sum() {
        Reader x = loudSong();
        for (int channel = 0; channel < 2; channel++) {
            int total = 0;
            for (int i = 0; i < 30; i++) {
                total += x.sample(channel, i) * (i + 1);
            }
            due("sum of CHANNEL " + channel, x.sum(channel), total);
            due("sum is none of 0", total != 0, true);
        }
        due("sum of CHANNEL 2", x.sum(2), 0);
        due("sum of CHANNEL -1", x.sum(-1), 0);
        due("sum of CHANNEL least", x.sum(Integer.MIN_VALUE), 0);
        sumGoesRound(x);
        x.read();
        due("sum is gone behind read", x.sum(0), 0);
    }

    private static void sumGoesRound(Reader x) {
        // 59 loud SOUNDS: 928 SAMPLES near their bounds, whose sum goes round.
        SongWriter setup = new SongWriter().start(1, 2).lengths(1, 1, 1).values(0, 255, false, 8, 255, 0)
            .book(1, 1).posts(1, 1).classes(0, 1, 0);
        List<Integer> laces = new ArrayList<>();
        List<Integer> bodies = new ArrayList<>();
        SongWriter sound = new SongWriter().put(1, 1).put(255, 8).put(255, 8).word("00").word("1");
        for (int i = 0; i < 59; i++) {
            laces.add(sound.bytes().size());
            bodies.addAll(sound.bytes());
        }
        layPage(x, 0, 0, 0, setup.bytes());
        Songs.lay(x, SongModel.pageOf(0, 0, 1, 1, laces, bodies));
        due("a long song", x.read(), 928);
        // Like SOUNDS give like blocks of sixteen SAMPLES: the first and the last are looked at.
        long total = 0;
        for (int n = 0; n < 16; n++) {
            long value = x.sample(0, n);
            due("like SOUNDS give like SAMPLES, " + n, x.sample(0, 912 + n), value);
            for (int i = n; i < 928; i += 16) {
                total += value * (i + 1);
            }
        }
        due("the sum goes round", x.sum(0), (int) total);
        due("the sum goes round indeed", total != (int) total, true);
        due("no SAMPLE behind the last", x.sample(0, 928), 0);
        due("they are heard", x.sample(0, 0) != 0, true);
    }

    private static void promise10Taped() {
        Reader x = new Reader();
        due("taped of none", x.taped(), 0);
        x.feed(0, 0, 0, 0, 0);
        due("taped of a feed", x.taped(), 20);
        x.end(3);
        due("taped of an end", x.taped(), 3);
        x.page(1, 0, 0, 1, 0, false);
        due("taped of a page", x.taped(), 31);
        x.harm(0, 1);
        due("taped of a harm", x.taped(), 31);
        x.read();
        due("taped of a read", x.taped(), 0);
    }
}
