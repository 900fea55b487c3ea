import java.util.ArrayList;
import java.util.Arrays;
import java.util.List;

/** The sentences of "1. PAGES" about PACKETS and their BITS. */
final class PacketSentences extends Sentences {
    PacketSentences(Doc doc) {
        super(doc);
    }

    @Override
    void hold() {
        lacesPartTheBytes();
        packetsOverPages();
        numbers();
        notGoesOn();
        nothingIsBegun();
        sixty();
        tooLong();
        begunAtTheEnd();
        bitsLowestFirst();
        bitBehindTheEnd();
    }

    private static Reader readOf(Reader x) {
        x.read();
        return x;
    }

    /** A SETUP of eight BOOKS with 64 ENTRIES each, longer than a LACE; its one number is told by its last BOOK. */
    private static SongWriter longSetup() {
        SongWriter setup = new SongWriter().start(1, 8);
        int[] lengths = Songs.lengths(64);
        for (int i = 0; i < 6; i++) {
            setup.book(1, lengths);
        }
        int[] numbers = new int[64];
        for (int e = 0; e < 64; e++) {
            numbers[e] = 3 * e;
        }
        return setup.lengths(1, lengths).values(5, 7, false, 8, numbers).book(1, 1).posts(1, 7).classes(0, 7, 6);
    }

    private static SongWriter soundOf(int... entries) {
        SongWriter sound = new SongWriter().put(1, 1).put(255, 8).put(255, 8);
        for (int e : entries) {
            sound.word("0").word(Songs.words(Songs.lengths(64))[e]);
        }
        return sound.word("1");
    }

    private void lacesPartTheBytes() {
        sentence("PACKETS: the LACES part the bytes; a PACKET goes up to a LACE below 255,");
        for (int lace : new int[] {0, 1, 128, 254, 255}) {
            Reader x = new Reader();
            Songs.layLaces(x, 0, 0, 7, lace, 3);
            x.read();
            dueLooks("a LACE of " + lace, x, 1, 0, lace == 255 ? 1 : 2, 0, 0, 0, 0, lace == 255 ? 258 : Math.max(3, lace));
        }
        Reader whole = new Reader();
        Songs.layLaces(whole, 0, 0, 7, 255, 0, 255, 255, 0, 255, 254, 0);
        whole.read();
        dueLooks("LACES of 255 and 0", whole, 1, 0, 4, 0, 0, 0, 0, 510);
        // All of a song on one PAGE: each PACKET has just its own bytes.
        List<Integer> setup = longSetup().bytes();
        List<List<Integer>> packets = new ArrayList<>();
        packets.add(setup);
        packets.add(Songs.silence());
        packets.add(soundOf(0, 63, 1).bytes());
        packets.add(Songs.silence());
        Reader song = Songs.laidTogether(packets);
        due("a song on one PAGE", song.read(), 32);
        dueLooks("a song on one PAGE", song, 1, 0, 4, 3, 0, 1, 0, setup.size());
        dueNumbers("a song on one PAGE", song, 0, 5, 189 * 7 + 5, 3 * 7 + 5);
    }

    private void packetsOverPages() {
        sentence("over PAGES, too.");
        List<Integer> setup = longSetup().bytes();
        List<Integer> sound = soundOf(2, 62, 31).bytes();
        due("the SETUP is longer than a LACE", setup.size() > 255 && setup.size() < 510, true);
        for (int empty = 0; empty <= 2; empty++) {
            Reader x = new Reader();
            Songs.lay(x, SongModel.pageOf(0, 0, 1, 0, SongWriter.row(255), setup.subList(0, 255)));
            for (int i = 1; i <= empty; i++) {
                // A PAGE of no LACES that GOES ON leaves what is begun.
                x.page(x.taped(), 1, 0, 1, i, true);
            }
            List<Integer> body = new ArrayList<>(setup.subList(255, setup.size()));
            List<Integer> laces = SongWriter.row(body.size(), 1, sound.size(), 1);
            body.addAll(Songs.silence());
            body.addAll(sound);
            body.addAll(Songs.silence());
            Songs.lay(x, SongModel.pageOf(1, 0, 1, empty + 1, laces, body));
            due("a SETUP over PAGES", x.read(), 32);
            dueNumbers("a SETUP over PAGES", x, 0, 6 * 7 + 5, 186 * 7 + 5, 93 * 7 + 5);
        }
        // The end is a LACE of 0 on the next PAGE; three PAGES; a PACKET that ends where the next begins.
        Reader even = new Reader();
        Songs.layOpenPage(even, 0, 4, 1);
        Songs.layLaces(even, 1, 5, 7, 0);
        dueLooks("a LACE of 0 ends it", readOf(even), 2, 0, 1, 0, 0, 0, 0, 255);
        Reader three = new Reader();
        Songs.layOpenPage(three, 0, 4, 1);
        Songs.layOpenPage(three, 1, 5, 2);
        Songs.layLaces(three, 1, 6, 7, 255, 3, 255);
        Songs.layLaces(three, 1, 7, 7, 1, 9);
        dueLooks("over four PAGES", readOf(three), 4, 0, 3, 0, 0, 0, 0, 1023);
    }

    /** How long the PACKET is that goes over from one PAGE to another; 0 if none does. */
    private static int over(int number, int flags, int next) {
        Reader x = new Reader();
        Songs.layOpenPage(x, 0, number, 1);
        Songs.layLaces(x, flags, next, 7, 9);
        return readOf(x).look(7);
    }

    private void numbers() {
        sentence("If a PAGE's NUMBER is not 1 more");
        for (int number : new int[] {0, 1, 5, 255, 256, 65535, 1 << 24, Integer.MAX_VALUE, -2, -1, Integer.MIN_VALUE}) {
            due("1 more than " + number, over(number, 1, number + 1), 264);
            for (int step : new int[] {0, 2, -1, -2, 257, 65537, 1 + (1 << 24), Integer.MIN_VALUE, 1 + Integer.MIN_VALUE}) {
                due(step + " more than " + number, over(number, 1, number + step), 0);
            }
        }
        sentence("(going round at 32 bits)");
        due("behind 2 to 32 less 1", over(-1, 1, 0), 264);
        due("behind 2 to 31 less 1", over(Integer.MAX_VALUE, 1, Integer.MIN_VALUE), 264);
        due("not behind 2 to 31 less 1", over(Integer.MAX_VALUE, 1, 0), 0);
        due("not behind 2 to 32 less 1", over(-1, 1, 1), 0);
        sentence("than that of the one before (of those that count),");
        for (int otherNumber = 3; otherNumber <= 7; otherNumber++) {
            Reader x = new Reader();
            Songs.layOpenPage(x, 0, 5, 1);
            // Of another SERIAL, then one that is not right, then anything.
            x.page(x.taped(), 0, 0, 2, otherNumber, false);
            int harmed = x.taped();
            x.page(x.taped(), 0, 0, 1, otherNumber, false);
            x.harm(harmed + 20, 1);
            x.feed(1, 2, 3, 4, 5);
            Songs.layLaces(x, 1, 6, 7, 9);
            due("what does not count between, NUMBER " + otherNumber, readOf(x).look(7), 264);
        }
        Reader x = new Reader();
        Songs.layOpenPage(x, 0, 5, 1);
        x.page(x.taped(), 1, 0, 1, 6, true);
        Songs.layLaces(x, 1, 6, 7, 9);
        due("the one before is that of no LACES", readOf(x).look(7), 0);
        // Of the first PAGE any NUMBER will do.
        for (int number : new int[] {0, 1, 2, -1}) {
            Reader first = new Reader();
            Songs.layLaces(first, 0, number, 86, 1);
            due("the first PAGE's NUMBER " + number, first.read(), -2);
        }
        // Where nothing is begun and it does not GO ON, a NUMBER out of turn throws nothing away.
        Reader apart = new Reader();
        Songs.layPage(apart, 0, 0, 0, Songs.plainSetup(1));
        Songs.layPage(apart, 0, 0, 9, Songs.silence());
        Songs.layPage(apart, 0, 0, 3, Songs.silence());
        due("NUMBERS out of turn", apart.read(), 16);
    }

    private void notGoesOn() {
        sentence("or it has not GOES ON, what is begun is thrown away;");
        for (int flags = 0; flags < 256; flags += 2) {
            due("not GOES ON, FLAGS " + flags, over(5, flags, 6), 9);
            due("not GOES ON, FLAGS " + flags + ", another NUMBER", over(5, flags, 7), 9);
        }
        Reader x = new Reader();
        Songs.layOpenPage(x, 0, 5, 2);
        Songs.layLaces(x, 0, 6, 86, 1, 2);
        due("what the PAGE has counts", x.read(), -2);
        dueLooks("what the PAGE has counts", x, 2, 0, 2, 0, 0, 0, 0, 2);
        // One of no LACES throws it away, too: what comes then has nothing begun.
        Reader empty = new Reader();
        Songs.layOpenPage(empty, 0, 5, 1);
        empty.page(empty.taped(), 0, 0, 1, 6, true);
        Songs.layLaces(empty, 1, 7, 7, 9, 4);
        dueLooks("a PAGE of no LACES", readOf(empty), 3, 0, 1, 0, 0, 0, 0, 4);
        Reader fresh = new Reader();
        Songs.layOpenPage(fresh, 0, 5, 1);
        Songs.layOpenPage(fresh, 0, 6, 1);
        Songs.layLaces(fresh, 1, 7, 7, 9);
        due("begun anew", readOf(fresh).look(7), 264);
    }

    private void nothingIsBegun() {
        sentence("if it has GOES ON, and nothing is begun, its LACES up to the first below 255 (with it) are thrown away, too.");
        Integer[][] laces = {{1}, {0}, {254}, {255, 1}, {255, 0}, {255, 255, 254}, {}, {255}, {255, 255}};
        for (Integer[] lost : laces) {
            boolean ended = lost.length > 0 && lost[lost.length - 1] < 255;
            List<Integer> some = new ArrayList<>(Arrays.asList(lost));
            some.addAll(ended ? SongWriter.row(5, 0, 6) : Songs.none());
            Integer[] all = some.toArray(new Integer[0]);
            int kept = ended ? 3 : 0;
            String what = "LACES " + Arrays.toString(all);
            Reader first = new Reader();
            Songs.layLaces(first, 1, 0, 7, all);
            dueLooks(what + " of the first PAGE", readOf(first), 1, 0, kept, 0, 0, 0, 0, ended ? 6 : 0);
            Reader behind = new Reader();
            Songs.layLaces(behind, 0, 0, 7, 4);
            Songs.layLaces(behind, 1, 1, 7, all);
            dueLooks(what + " behind a PACKET's end", readOf(behind), 2, 0, 1 + kept, 0, 0, 0, 0, ended ? 6 : 4);
            Reader wrong = new Reader();
            Songs.layOpenPage(wrong, 0, 0, 1);
            Songs.layLaces(wrong, 1, 2, 7, all);
            dueLooks(what + " behind a wrong NUMBER", readOf(wrong), 2, 0, kept, 0, 0, 0, 0, ended ? 6 : 0);
            // If there was no end among them, nothing is begun for the next PAGE, either.
            Reader next = new Reader();
            Songs.layLaces(next, 1, 0, 7, all);
            Songs.layLaces(next, 1, 1, 7, 9, 2);
            dueLooks(what + " and the next PAGE", readOf(next), 2, 0, kept + 1, 0, 0, 0, 0, ended ? 6 : 2);
        }
        // What is begun behind the first end goes on.
        Reader begun = new Reader();
        Songs.layLaces(begun, 1, 0, 7, 255, 3, 255);
        Songs.layLaces(begun, 1, 1, 7, 9);
        dueLooks("begun behind what is thrown away", readOf(begun), 2, 0, 1, 0, 0, 0, 0, 264);
        // It is thrown away for that, not for its length: look(6) does not tell it.
        Reader longOne = new Reader();
        Songs.layLaces(longOne, 1, 0, 7, 255, 255, 255, 255, 255, 255, 255, 255, 9, 1);
        dueLooks("a long one thrown away", readOf(longOne), 1, 0, 1, 0, 0, 0, 0, 1);
    }

    private void sixty() {
        sentence("At most 60 PACKETS count (the first ones);");
        SongWriter setup = new SongWriter().start(1, 2).lengths(1, 1).values(100, 100, false, 8, 100)
            .book(1, 1).posts(1, 1).classes(0, 1, 0);
        List<Integer> loud = new SongWriter().put(1, 1).put(255, 8).put(255, 8).word(Songs.zeros(239)).bytes();
        due("the loud one is the longest", loud.size() > setup.bytes().size(), true);
        for (int count = 58; count <= 62; count++) {
            List<List<Integer>> packets = new ArrayList<>();
            packets.add(setup.bytes());
            while (packets.size() < count - 1) {
                packets.add(Songs.silence());
            }
            // The last one is the only one that is heard, and the longest.
            packets.add(loud);
            Reader x = Songs.laidTogether(packets);
            int counted = Math.min(60, count);
            due(count + " PACKETS", x.read(), 16 * (counted - 2));
            int longest = Math.max(setup.bytes().size(), count <= 60 ? loud.size() : 0);
            dueLooks(count + " PACKETS", x, 1, 0, counted, counted - 1, 0, 1, 0, longest);
            due(count + " PACKETS: the last is heard", x.sum(0) != 0, count <= 60);
        }
        sixtyOfOtherKinds();
    }

    private void sixtyOfOtherKinds() {
        // Those thrown away are none of the sixty; those passed over are.
        Reader x = new Reader();
        Songs.layPage(x, 0, 0, 0, SongWriter.many(2001, 1));
        Songs.layPage(x, 0, 0, 1, Songs.plainSetup(1));
        Songs.lay(x, SongModel.pageOf(1, 0, 1, 2, SongWriter.many(30, 0), Songs.none()));
        Songs.lay(x, SongModel.pageOf(0, 0, 1, 3, SongWriter.many(40, 1), SongWriter.many(40, 0)));
        due("29 passed over, 30 of 40 counted", x.read(), 29 * 16);
        dueLooks("29 passed over, 30 of 40 counted", x, 4, 0, 60, 30, 29, 1, 1, Songs.plainSetup(1).size());
        // A PACKET behind the sixtieth may be of any length; one too long is told all the same.
        Reader behind = new Reader();
        Songs.lay(behind, SongModel.pageOf(0, 0, 1, 0, SongWriter.many(60, 1), SongWriter.many(60, 3)));
        Songs.layPage(behind, 0, 0, 1, SongWriter.many(300, 3));
        Songs.layPage(behind, 0, 0, 2, SongWriter.many(2001, 3));
        dueLooks("behind the sixtieth", readOf(behind), 3, 0, 60, 0, 0, 0, 1, 1);
        // The last PAGE that counts may have PACKETS that do not.
        Reader last = new Reader();
        Songs.layPage(last, 0, 0, 0, Songs.plainSetup(1));
        Songs.lay(last, SongModel.pageOf(0, 0, 1, 1, SongWriter.many(59, 1), SongWriter.many(59, 0)));
        Songs.layPage(last, 4, 927, 2, Songs.silence());
        due("LAST behind the sixtieth", last.read(), 927);
    }

    private void tooLong() {
        sentence("one that comes to more than 2000 bytes is thrown away (all of it, up to its end).");
        for (int length : new int[] {1784, 1785, 1999, 2000, 2001, 2002, 2039, 2040, 2041, 2295, 4000, 5700}) {
            Reader x = new Reader();
            Songs.layPage(x, 0, 0, 0, SongWriter.many(length, 7));
            Songs.layLaces(x, 0, 1, 86, 1);
            due("a first PACKET of " + length, x.read(), length <= 2000 ? -3 : -2);
            boolean counts = length <= 2000;
            dueLooks("a PACKET of " + length, x, 2, 0, counts ? 2 : 1, 0, 0, 0, counts ? 0 : 1, counts ? length : 1);
        }
        // Over PAGES; where it ends, the next one begins, on the same PAGE.
        for (int rest : new int[] {0, 1, 215, 216, 254}) {
            Reader x = new Reader();
            Songs.layOpenPage(x, 0, 0, 4);
            Songs.layOpenPage(x, 1, 1, 3);
            Songs.layLaces(x, 1, 2, 86, rest, 1, 2);
            boolean counts = 1785 + rest <= 2000;
            due("over PAGES, " + (1785 + rest), x.read(), counts ? -3 : -2);
            dueLooks("over PAGES, " + (1785 + rest), x, 3, 0, counts ? 3 : 2, 0, 0, 0, counts ? 0 : 1, counts ? 1785 + rest : 2);
        }
        Reader far = new Reader();
        Songs.layOpenPage(far, 0, 0, 8);
        Songs.layOpenPage(far, 1, 1, 9);
        Songs.layLaces(far, 1, 2, 86, 255, 255, 0, 1);
        due("long ago too long", far.read(), -2);
        dueLooks("long ago too long", far, 3, 0, 1, 0, 0, 0, 1, 1);
        // Between two SOUNDS it counts for nothing: the halves are laid over one another.
        Reader between = Songs.laid(Songs.plainSetup(1), Songs.silence(), SongWriter.many(2001, 0), Songs.silence());
        due("between two SOUNDS", between.read(), 16);
        dueLooks("between two SOUNDS", between, 4, 0, 3, 2, 0, 1, 1);
        due("of 2000 between two SOUNDS", Songs.answer(Songs.plainSetup(1), Songs.silence(), SongWriter.many(2000, 0),
            Songs.silence()), 32);
    }

    private void begunAtTheEnd() {
        sentence("What is begun at the end does not count.");
        for (int laces = 1; laces <= 9; laces++) {
            Reader x = new Reader();
            Songs.layLaces(x, 0, 0, 86, 1);
            Songs.layOpenPage(x, 0, 1, laces);
            due("begun at the end, " + laces, x.read(), -2);
            dueLooks("begun at the end, " + laces, x, 2, 0, 1, 0, 0, 0, 0, 1);
        }
        Reader alone = new Reader();
        Songs.layOpenPage(alone, 0, 0, 1);
        due("begun alone", alone.read(), -1);
        Reader same = new Reader();
        Songs.layLaces(same, 0, 0, 86, 1, 255);
        dueLooks("begun on the same PAGE", readOf(same), 1, 0, 1, 0, 0, 0, 0, 1);
        // With the end on a PAGE that is harmed, or of another SERIAL.
        Reader harmed = new Reader();
        Songs.layOpenPage(harmed, 0, 0, 1);
        Songs.layLaces(harmed, 1, 1, 86, 1);
        harmed.harm(283 + 28, 1);
        dueLooks("its end is harmed", readOf(harmed), 1, 0, 0);
        Reader other = new Reader();
        Songs.layOpenPage(other, 0, 0, 1);
        other.page(other.taped(), 1, 0, 2, 1, false);
        dueLooks("its end is another SERIAL's", readOf(other), 1, 1, 0);
    }

    private void bitsLowestFirst() {
        sentence("BITS of a PACKET: of its bytes one after the other, the lowest first; a number's lowest first, too.");
        // By hand: 86; 1 of CHANNELS, 0 of BOOKS; one BOOK of one ENTRY (LENGTH 1, no VALUES); no POSTS; SIZE 1, one CLASS of none.
        // 0 1 1 0 1 0 1 0 | 1 0 0 0 . 0 0 0 0 | 0 0 0 0 . 1 0 0 0 | 0 . 0 0 . 0 0 0 0 . 0 | 0 0 . 0 0 . 0 0 . 0 0 | 0 . 0 0 0 1 . 1
        List<Integer> setup = SongWriter.row(86, 1, 16, 0, 0, 48);
        due("a SETUP by hand", Songs.answer(setup, Songs.silence(), Songs.silence()), 16);
        // The last CLASS' number, 8, has its highest bit last: turned round it would be 1, which is none.
        due("a CLASS' number 1", Songs.answer(SongWriter.row(86, 1, 16, 0, 0, 2)), -5);
        due("a CLASS' number 8, without the bit of LEANING", Songs.answer(SongWriter.row(86, 1, 16, 0, 0)), -2);
        // Y 240 and 15 in the bits of a SOUND: turned round they would be 15 and 240.
        SongWriter heard = new SongWriter().start(1, 2).lengths(1, 1).values(100, 100, false, 8, 100)
            .book(1, 1).posts(1, 1).classes(0, 1, 0);
        // 1, then 0 0 0 0 1 1 1 1, then 1 1 1 1 0 0 0 0, then 0s.
        List<Integer> sound = SongWriter.row(0b11100001, 0b00011111, 0, 0, 0, 0, 0);
        Reader x = Songs.laid(heard.bytes(), Songs.silence(), sound, Songs.silence());
        x.read();
        long[] numbers = new long[16];
        Arrays.fill(numbers, 10100);
        dueFactors("Y by hand", x, 0, Songs.factors(numbers, Songs.places(1, Songs.point(0, 240), Songs.point(16, 15))));
    }

    private void bitBehindTheEnd() {
        sentence("A bit behind its end is the end of that PACKET.");
        // A SOUND's CURVE has 1 + 8 + 8 bits and one more of each POST: three bytes just hold that of seven.
        for (int posts = 0; posts <= 15; posts++) {
            int[] xs = new int[posts];
            for (int i = 0; i < posts; i++) {
                xs[i] = i + 1;
            }
            List<Integer> setup = new SongWriter().start(1, 1).book(1, 1, 1).posts(1, 0, xs).classes(0, 0, 8).bytes();
            for (int bytes = 1; bytes <= 5; bytes++) {
                // The bytes of the next PACKET lie right behind it on the PAGE.
                List<List<Integer>> packets = new ArrayList<>();
                packets.add(setup);
                packets.add(SongWriter.many(bytes, 255));
                packets.add(SongWriter.many(9, 255));
                Reader x = Songs.laidTogether(packets);
                boolean counts = 8 * bytes >= 17 + posts;
                due(posts + " POSTS in " + bytes + " bytes", x.read(), counts ? 16 : 0);
                dueLooks(posts + " POSTS in " + bytes + " bytes", x, 1, 0, 3, counts ? 2 : 1, counts ? 0 : 1);
            }
        }
        // The SETUP's last bit is the last of its last byte; of two CHANNELS there is one more.
        SongWriter even = new SongWriter().start(1, 1).book(1, 1, 1).posts(1, 0, 1, 2, 3).classes(0, 0, 8);
        due("bits come out even", even.bits() % 8, 0);
        due("the last bit is the last", Songs.answer(even.bytes()), 0);
        SongWriter odd = new SongWriter().start(2, 1).book(1, 1, 1).posts(1, 0, 1, 2, 3).classes(0, 0, 8);
        List<List<Integer>> packets = new ArrayList<>();
        packets.add(odd.bytes());
        packets.add(SongWriter.many(5, 255));
        due("a bit behind the last", Songs.laidTogether(packets).read(), -2);
        due("an empty PACKET", Songs.answer(Songs.none()), -2);
    }
}
