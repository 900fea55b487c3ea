import java.util.ArrayList;
import java.util.Arrays;
import java.util.List;

/** The sentences of "1. PAGES" that say what a right PAGE is, and where the next one is looked for. */
final class PageSentences extends Sentences {
    PageSentences(Doc doc) {
        super(doc);
    }

    @Override
    void hold() {
        tapeAtMost();
        firstBytes();
        flags();
        fieldsLowestFirst();
        laces();
        whollyOnTheTape();
        crc();
        nextPlace();
        behindARightOne();
        anotherSerial();
    }

    private void tapeAtMost() {
        sentence("The TAPE has at most 6000 bytes.");
        Reader x = new Reader();
        Songs.lay(x, Songs.pageOfSize(6000));
        due("6000 bytes", x.taped(), 6000);
        due("feed", x.feed(1, 1, 1, 1, 1), -1);
        due("page", x.page(6000, 0, 0, 1, 0, true), -1);
        x.read();
        due("a PAGE of 6000 bytes", x.look(0), 1);
    }

    private void firstBytes() {
        sentence("A PAGE at a place: bytes 79, 103, 103, 83; 0;");
        List<Integer> page = SongModel.pageOf(0, 0, 1, 0, SongWriter.row(1), SongWriter.row(86));
        due("the right bytes", Songs.rightPages(page), 1);
        for (int i = 0; i < 5; i++) {
            for (int value = 0; value < 256; value++) {
                List<Integer> other = new ArrayList<>(page);
                other.set(i, value);
                int due = value == page.get(i) ? 1 : 0;
                due("byte " + i + " is " + value, Songs.rightPages(Songs.withRightCrc(other)), due);
            }
        }
    }

    private void flags() {
        sentence("FLAGS (1 GOES ON, 2, 4 LAST; others do not count);");
        for (int flags = 0; flags < 256; flags++) {
            boolean goesOn = flags % 2 == 1;
            boolean last = flags / 4 % 2 == 1;
            Reader x = Songs.laid(Songs.plainSetup(1), Songs.silence(), Songs.silence());
            Songs.layPage(x, flags, 5, 3, Songs.silence());
            due("the last PAGE's FLAGS " + flags, x.read(), last ? 5 : goesOn ? 16 : 32);
            due("SOUNDS with FLAGS " + flags, x.look(3), goesOn ? 2 : 3);
            Reader first = new Reader();
            Songs.layPage(first, flags, 5, 0, Songs.plainSetup(1));
            Songs.layPage(first, 0, 5, 1, Songs.silence());
            Songs.layPage(first, 0, 5, 2, Songs.silence());
            // Without the SETUP the SOUND of eight bits 0 is no 86.
            due("the first PAGE's FLAGS " + flags, first.read(), goesOn ? -3 : 16);
            Reader over = new Reader();
            Songs.layOpenPage(over, 0, 0, 1);
            Songs.layPage(over, flags, 5, 1, SongWriter.row(1, 2));
            over.read();
            due("a PACKET over PAGES with FLAGS " + flags, over.look(7), goesOn ? 257 : 2);
        }
    }

    private void fieldsLowestFirst() {
        sentence("GRANULE, eight bytes, SERIAL, NUMBER, CRC, four each, all with the lowest byte first;");
        // 59 SOUNDS, 928 SAMPLES: each byte of the GRANULE by itself.
        for (int i = 0; i < 8; i++) {
            for (int value : new int[] {0, 1, 2, 3, 4, 127, 128, 255}) {
                long granule = (long) value << (8 * i);
                long due = granule >= 0 && granule < 928 ? granule : 928;
                due("GRANULE's byte " + i + " is " + value, granuleAnswer(6 + i, value), due);
            }
        }
        for (int bit = 0; bit < 32; bit++) {
            Reader x = new Reader();
            List<Integer> page = new ArrayList<>(SongModel.pageOf(0, 0, 0, 0, SongWriter.row(1), SongWriter.row(86)));
            Songs.lay(x, page);
            page.set(14 + bit / 8, 1 << bit % 8);
            Songs.lay(x, Songs.withRightCrc(page));
            x.read();
            dueLooks("SERIAL's bit " + bit, x, 1, 1);
            Reader same = new Reader();
            Songs.lay(same, Songs.withRightCrc(page));
            same.page(same.taped(), 0, 0, 1 << bit, 0, false);
            same.read();
            dueLooks("SERIAL's bit " + bit + " by page()", same, 2, 0);
        }
        dueFollows("255, then 256", SongWriter.row(255, 0, 0, 0), SongWriter.row(0, 1, 0, 0), true);
        dueFollows("65535, then 65536", SongWriter.row(255, 255, 0, 0), SongWriter.row(0, 0, 1, 0), true);
        dueFollows("2 to 24 less 1", SongWriter.row(255, 255, 255, 0), SongWriter.row(0, 0, 0, 1), true);
        dueFollows("highest first", SongWriter.row(0, 0, 0, 255), SongWriter.row(0, 0, 1, 0), false);
        dueFollows("1 more in the highest", SongWriter.row(0, 0, 0, 1), SongWriter.row(0, 0, 0, 2), false);
        List<Integer> page = SongModel.pageOf(0, 0, 1, 0, SongWriter.row(1), SongWriter.row(86));
        List<Integer> turned = new ArrayList<>(page);
        for (int i = 0; i < 4; i++) {
            turned.set(22 + i, page.get(25 - i));
        }
        due("CRC highest first", Songs.rightPages(turned), 0);
        due("CRC lowest first", Songs.rightPages(page), 1);
    }

    private static int granuleAnswer(int at, int value) {
        List<Integer> laces = SongWriter.many(59, 1);
        List<Integer> page = SongModel.pageOf(4, 0, 1, 1, laces, SongWriter.many(59, 0));
        page.set(at, value);
        Reader x = Songs.laid(Songs.plainSetup(1));
        Songs.lay(x, Songs.withRightCrc(page));
        return x.read();
    }

    /** Whether a PACKET goes on from a PAGE with this NUMBER, as bytes, to one with that. */
    private void dueFollows(String what, List<Integer> number, List<Integer> next, boolean follows) {
        List<Integer> first = SongModel.pageOf(0, 0, 1, 0, SongWriter.row(255), SongWriter.many(255, 7));
        List<Integer> second = SongModel.pageOf(1, 0, 1, 0, SongWriter.row(1), SongWriter.row(7));
        for (int i = 0; i < 4; i++) {
            first.set(18 + i, number.get(i));
            second.set(18 + i, next.get(i));
        }
        Reader x = new Reader();
        Songs.lay(x, Songs.withRightCrc(first));
        Songs.lay(x, Songs.withRightCrc(second));
        x.read();
        due("NUMBER " + what, x.look(7), follows ? 256 : 0);
    }

    private void laces() {
        sentence("a count n; n LACES; as many bytes as they add up to.");
        Integer[][] laces = {{}, {0}, {0, 0, 0}, {1}, {254}, {255}, {255, 0}, {255, 255, 255, 1}, {3, 2, 1, 0, 7}};
        for (Integer[] some : laces) {
            int body = 0;
            int ended = 0;
            for (int lace : some) {
                body += lace;
                ended += lace < 255 ? 1 : 0;
            }
            Reader x = new Reader();
            Songs.layLaces(x, 0, 0, 79, some);
            due("bytes of LACES " + Arrays.toString(some), x.taped(), 27 + some.length + body);
            Songs.layLaces(x, 0, 1, 79);
            x.read();
            dueLooks("LACES " + Arrays.toString(some), x, 2, 0, ended);
        }
        for (int count : new int[] {60, 128, 254, 255}) {
            for (int lace : new int[] {0, 1, 22}) {
                Reader x = new Reader();
                Songs.lay(x, SongModel.pageOf(0, 0, 1, 0, SongWriter.many(count, lace), SongWriter.many(count * lace, 1)));
                x.page(x.taped(), 0, 0, 1, 1, true);
                x.read();
                dueLooks(count + " LACES of " + lace, x, 2, 0, 60, 0, 0, 0, 0, lace);
            }
        }
        // One LACE more or less than there are bytes for, its CRC right for just these bytes.
        List<Integer> page = SongModel.pageOf(0, 0, 1, 0, SongWriter.row(3), SongWriter.row(1, 2, 3));
        for (int lace = 0; lace <= 5; lace++) {
            List<Integer> other = new ArrayList<>(page);
            other.set(27, lace);
            due("a LACE of " + lace + " and 3 bytes", Songs.rightPages(Songs.withRightCrc(other)), lace == 3 ? 1 : 0);
        }
    }

    private void whollyOnTheTape() {
        sentence("It is right, if it lies wholly on the TAPE");
        List<Integer> page = SongModel.pageOf(0, 0, 1, 0, SongWriter.row(2, 3, 0), SongWriter.row(1, 2, 3, 4, 5));
        for (int size = 0; size <= page.size(); size++) {
            due("the first " + size + " bytes of " + page.size(), Songs.rightPages(page.subList(0, size)), size == page.size() ? 1 : 0);
            // The rest was on the TAPE, but is not any more.
            Reader x = new Reader();
            Songs.lay(x, page);
            x.end(size);
            x.read();
            due("cut to " + size, x.look(0), size == page.size() ? 1 : 0);
        }
        // At the TAPE's very end, which is that of its room, too.
        for (int size : new int[] {27, 28, 33, 400}) {
            List<Integer> last = size == 27 ? SongModel.pageOf(0, 0, 1, 0, Songs.none(), Songs.none()) : Songs.pageOfSize(size);
            List<Integer> bytes = SongWriter.many(6000 - size, 79);
            bytes.addAll(last);
            due("the last " + size + " of 6000", Songs.rightPages(bytes), 1);
            Reader x = new Reader();
            Songs.lay(x, bytes);
            x.end(5999);
            x.read();
            due("the last " + size + " of 6000, cut by one", x.look(0), 0);
        }
        // Its LACES tell more bytes than the TAPE can have.
        List<Integer> far = SongModel.pageOf(0, 0, 1, 0, SongWriter.many(255, 255), Songs.none());
        due("LACES far beyond the TAPE", Songs.rightPages(far), 0);
        far.addAll(SongWriter.many(6000 - far.size(), 0));
        due("LACES far beyond a full TAPE", Songs.rightPages(far), 0);
    }

    private void crc() {
        sentence("and CRC is what comes of all its bytes, with 0s for CRC: a row of 32 bits, 0 at first; for each byte: it is "
            + "turned into the highest eight bits (exclusive or); then eight times: doubled, and if a 1 went out at the top, "
            + "turned with 04c11db7.");
        // Counted outside of Java: four PAGES with their CRC.
        due("CRC c1639e5a", Songs.rightPages(SongWriter.row(79, 103, 103, 83, 0, 0, 0, 0, 0, 0, 0, 0, 0, 0, 1, 0, 0, 0,
            0, 0, 0, 0, 90, 158, 99, 193, 1, 1, 86)), 1);
        due("CRC 698a8ac6", Songs.rightPages(SongWriter.row(79, 103, 103, 83, 0, 5, 8, 7, 6, 5, 4, 3, 2, 1, 152, 186, 220,
            254, 1, 0, 0, 128, 198, 138, 138, 105, 1, 3, 255, 0, 128)), 1);
        due("CRC 9ea1a511", Songs.rightPages(SongWriter.row(79, 103, 103, 83, 0, 0, 0, 0, 0, 0, 0, 0, 0, 0, 0, 0, 0, 0,
            0, 0, 0, 0, 17, 165, 161, 158, 0)), 1);
        List<Integer> high = SongWriter.row(79, 103, 103, 83, 0);
        high.addAll(SongWriter.many(17, 255));
        high.addAll(SongWriter.row(70, 118, 39, 255, 1, 255));
        high.addAll(SongWriter.many(255, 255));
        due("CRC ff277646", Songs.rightPages(high), 1);
        // Every bit counts, but for those of the count and the LACES, which make it another PAGE at all.
        List<Integer> page = SongModel.pageOf(3, 77, 5, 9, SongWriter.row(4, 2), SongWriter.row(1, 2, 3, 4, 5, 6));
        for (int bit = 0; bit < 8 * page.size(); bit++) {
            List<Integer> other = new ArrayList<>(page);
            other.set(bit / 8, other.get(bit / 8) ^ 1 << bit % 8);
            other.addAll(SongWriter.many(400, 0));
            due("bit " + bit + " of it turned", Songs.rightPages(other), 0);
        }
        // A CRC of 0 is none.
        List<Integer> nought = new ArrayList<>(page);
        for (int i = 22; i < 26; i++) {
            nought.set(i, 0);
        }
        due("CRC 0", Songs.rightPages(nought), 0);
    }

    private void nextPlace() {
        sentence("At a place without a right PAGE one goes on to the next place;");
        List<Integer> page = Songs.pageOfSize(33);
        for (int ahead = 0; ahead <= 60; ahead++) {
            List<Integer> bytes = SongWriter.many(ahead, 79);
            bytes.addAll(page);
            due("behind " + ahead + " bytes", Songs.rightPages(bytes), 1);
        }
        // A beginning of a PAGE, of every length, with the PAGE right behind: the one is no hindrance to the other.
        List<Integer> other = SongModel.pageOf(0, 0, 1, 0, SongWriter.row(200), SongWriter.many(200, 1));
        for (int size = 1; size < other.size(); size++) {
            List<Integer> bytes = new ArrayList<>(other.subList(0, size));
            bytes.addAll(page);
            bytes.addAll(SongWriter.many(200, 0));
            due("behind " + size + " bytes of another PAGE", Songs.rightPages(bytes), 1);
        }
        // Inside of one that is not right: at each place of its body.
        for (int ahead = 0; ahead <= 5; ahead++) {
            List<Integer> body = SongWriter.many(ahead, 103);
            body.addAll(page);
            List<Integer> outer = SongModel.pageOf(0, 0, 1, 0, SongWriter.row(body.size()), body);
            outer.set(6, 1);
            outer.addAll(page);
            due("inside of a harmed one, and behind it", Songs.rightPages(outer), 2);
        }
    }

    private void behindARightOne() {
        sentence("behind a right one to its end.");
        List<Integer> page = Songs.pageOfSize(33);
        for (int serial = 1; serial <= 2; serial++) {
            List<Integer> inner = SongModel.pageOf(0, 0, serial, 0, SongWriter.row(0), Songs.none());
            List<Integer> bytes = SongModel.pageOf(0, 0, 1, 0, SongWriter.row(inner.size()), inner);
            bytes.addAll(page);
            Reader x = new Reader();
            Songs.lay(x, bytes);
            x.read();
            dueLooks("a right one inside of a right one", x, 2, 0);
        }
        // The outer one is of another SERIAL: what is inside of it does not count, either.
        List<Integer> outer = new ArrayList<>(page);
        outer.addAll(SongModel.pageOf(0, 0, 2, 0, SongWriter.row(33), page));
        outer.addAll(page);
        Reader x = new Reader();
        Songs.lay(x, outer);
        x.read();
        dueLooks("a right one inside of another SERIAL's", x, 2, 1);
        // Right behind one another, and with a byte between that begins nothing.
        List<Integer> three = new ArrayList<>(page);
        three.addAll(page);
        three.add(79);
        three.addAll(page);
        due("one right behind the other", Songs.rightPages(three), 3);
        List<Integer> many = new ArrayList<>();
        List<Integer> least = SongModel.pageOf(0, 0, 1, 0, Songs.none(), Songs.none());
        while (many.size() + 27 <= 6000) {
            many.addAll(least);
        }
        due("as many as there is room for", Songs.rightPages(many), 222);
    }

    private void anotherSerial() {
        sentence("PAGES of another SERIAL than the first right one's do not count.");
        // One that is not right does not tell the SERIAL, even if it is the first.
        Reader x = new Reader();
        x.page(0, 0, 0, 9, 0, false);
        x.harm(27, 1);
        Songs.layPage(x, 0, 0, 0, SongWriter.row(86));
        x.page(x.taped(), 0, 0, 9, 1, false);
        x.read();
        dueLooks("a harmed one ahead of the first", x, 1, 1, 1);
        for (int serial : new int[] {0, -1, Integer.MIN_VALUE, Integer.MAX_VALUE}) {
            Reader any = new Reader();
            any.page(0, 0, 0, serial, 0, false);
            any.page(any.taped(), 0, 0, serial + 1, 1, false);
            any.page(any.taped(), 0, 0, serial, 1, false);
            any.page(any.taped(), 0, 0, serial - 1, 2, false);
            any.read();
            dueLooks("SERIAL " + serial, any, 2, 2, 2);
        }
        // Its PACKETS, its NUMBER, its LAST, its GRANULE, and that it does not GO ON: nothing of it counts.
        Reader song = new Reader();
        Songs.layPage(song, 0, 0, 0, Songs.plainSetup(1));
        Songs.layPage(song, 0, 0, 1, Songs.silence());
        layOther(song, 0, 17, 2);
        Songs.layPage(song, 0, 0, 2, Songs.silence());
        layOther(song, 4, 3, 3);
        due("another SERIAL's PACKETS and LAST", song.read(), 16);
        dueLooks("another SERIAL's PACKETS and LAST", song, 3, 2, 3, 2);
        Reader last = new Reader();
        Songs.layPage(last, 0, 0, 0, Songs.plainSetup(1));
        Songs.layPage(last, 0, 0, 1, Songs.silence());
        Songs.layPage(last, 4, 7, 2, Songs.silence());
        layOther(last, 0, -1, 3);
        due("LAST ahead of another SERIAL", last.read(), 7);
    }

    private static void layOther(Reader x, int flags, long granule, int number) {
        int from = x.taped();
        Songs.lay(x, Songs.silence());
        x.page(from, flags, granule, 2, number, false);
    }
}
