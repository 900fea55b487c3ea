import java.util.ArrayList;
import java.util.List;

/** The sentences of the promises: what each call answers, and what it leaves as it was. */
final class CallSentences extends Sentences {
    private static final int[] FAR = {Integer.MIN_VALUE, Integer.MIN_VALUE + 1, -256, -1, 256, Integer.MAX_VALUE};

    CallSentences(Doc doc) {
        super(doc);
    }

    @Override
    void hold() {
        callsOfAnObject();
        newObject();
        feedPutsTwentyBytes();
        feedBehind6000();
        endKeepsTheFirst();
        endRefused();
        harmTurnsBits();
        harmRefused();
        pageOfBytesFromAPlaceOn();
        pageWritesItsHead();
        pageWritesLaces();
        pageAnswers();
        pageRefused();
        pageRefusedFor6000();
        readUsesTheTapeUp();
        readAnswersSamples();
        readAnswersFaults();
        readForgets();
        sampleIsNoneSuch();
        lookAheadOfAny();
        lookTells();
        lookOfAnother();
        sumOfSamples();
        sumGoesRound();
        tapedTells();
    }

    private static List<Integer> countedBytes(int from, int count) {
        List<Integer> bytes = new ArrayList<>();
        for (int i = 0; i < count; i++) {
            bytes.add((from + 11 * i) & 255);
        }
        return bytes;
    }

    private static Reader withBytes(List<Integer> bytes) {
        Reader x = new Reader();
        Songs.lay(x, bytes);
        return x;
    }

    private void callsOfAnObject() {
        sentence("An object is used for at most 512 calls after it has been made; what later calls answer is free.");
        Reader x = new Reader();
        for (int i = 1; i <= 300; i++) {
            due("feed, call " + i, x.feed(i, i, i, i, i), 20 * i);
        }
        due("end", x.end(0), true);
        Songs.layPage(x, 0, 0, 0, Songs.plainSetup(1));
        Songs.layPage(x, 0, 0, 1, Songs.silence());
        Songs.layPage(x, 0, 0, 2, Songs.silence());
        due("read", x.read(), 16);
        for (int left = x.left(); left > 2; left--) {
            due("look with " + left + " calls left", x.look(3), 2);
        }
        due("feed with 2 calls left", x.feed(1, 2, 3, 4, 5), 20);
        due("the 512th call", x.taped(), 20);
    }

    private void newObject() {
        sentence("An empty TAPE; nothing was read.");
        due("taped", new Reader().taped(), 0);
        due("no byte is there", new Reader().harm(0, 1), false);
        due("end(1)", new Reader().end(1), false);
        due("page(1)", new Reader().page(1, 0, 0, 0, 0, false), -1);
        dueLooks("nothing was read", new Reader(), 0, 0, 0, 0, 0, 0, 0, 0);
        due("no CHANNEL's sum", new Reader().sum(0), 0);
        due("no SAMPLE", new Reader().sample(0, 0), 0);
        due("read of an empty TAPE", new Reader().read(), -1);
        Reader other = new Reader();
        other.feed(1, 2, 3, 4, 5);
        due("no TAPE of another object", new Reader().taped(), 0);
        due("NONE", SongReader.NONE, -1);
    }

    private void feedPutsTwentyBytes() {
        sentence("Twenty bytes come behind the TAPE, of each number the highest first: how many it has;");
        Reader x = new Reader();
        due("feed of none", x.feed(0x00010203, 0x7f80ff00, 0x80818283, 0xfffefdfc, 0x10111213), 20);
        List<Integer> bytes = SongWriter.row(0, 1, 2, 3, 127, 128, 255, 0, 128, 129, 130, 131, 255, 254, 253, 252,
            16, 17, 18, 19);
        due("feed behind", x.feed(-1, 0, Integer.MIN_VALUE, Integer.MAX_VALUE, 1), 40);
        bytes.addAll(SongWriter.row(255, 255, 255, 255, 0, 0, 0, 0, 128, 0, 0, 0, 127, 255, 255, 255, 0, 0, 0, 1));
        dueBytes("feed", x, bytes);
        // Behind what end() left, not at a place that twenty divides.
        Reader cut = withBytes(countedBytes(1, 33));
        due("feed behind 33", cut.feed(0x01020304, 0x05060708, 0x090a0b0c, 0x0d0e0f10, 0x11121314), 53);
        List<Integer> all = countedBytes(1, 33);
        for (int i = 1; i <= 20; i++) {
            all.add(i);
        }
        dueBytes("feed behind 33", cut, all);
    }

    private void feedBehind6000() {
        sentence("NONE, and none come, if it would have more than 6000.");
        for (int size = 5978; size <= 6000; size++) {
            // One right PAGE is the whole TAPE: not one of its bytes may change, and none may come behind it.
            Reader x = withBytes(Songs.pageOfSize(size));
            due("feed behind " + size, x.feed(-1, -1, -1, -1, -1), size <= 5980 ? size + 20 : -1);
            due("taped behind " + size, x.taped(), size <= 5980 ? size + 20 : size);
            due("feed behind it again", x.feed(-1, -1, -1, -1, -1), -1);
            due("the last byte, behind " + size, x.harm(x.taped() - 1, 0), true);
            due("no byte behind the last, " + size, x.harm(size <= 5980 ? size + 20 : size, 0), false);
            x.read();
            due("the PAGE of " + size + " stays", x.look(0), 1);
        }
    }

    private void endKeepsTheFirst() {
        sentence("The TAPE has its first n bytes alone: true;");
        for (int n = 0; n <= 45; n++) {
            Reader x = withBytes(countedBytes(5, 45));
            due("end(" + n + ")", x.end(n), true);
            due("no byte behind " + n, x.harm(n, 1), false);
            dueBytes("end(" + n + ")", x, countedBytes(5, n));
        }
        due("end(0) of none", new Reader().end(0), true);
        // What was behind the end does not come back.
        Reader x = withBytes(Songs.pageOfSize(60));
        x.end(59);
        x.feed(0, 0, 0, 0, 0);
        x.end(60);
        x.read();
        due("the byte behind the end is gone", x.look(0), 0);
        Reader full = withBytes(Songs.pageOfSize(6000));
        due("end(6000)", full.end(6000), true);
        full.read();
        due("end(6000) leaves all", full.look(0), 1);
    }

    private void endRefused() {
        sentence("false, and nothing happens, if it has fewer, or n is below 0.");
        for (int n : new int[] {46, 47, 6000, 6001, Integer.MAX_VALUE, -1, -2, -45, Integer.MIN_VALUE}) {
            Reader x = withBytes(countedBytes(5, 45));
            due("end(" + n + ")", x.end(n), false);
            dueBytes("end(" + n + ")", x, countedBytes(5, 45));
        }
        due("end(1) of none", new Reader().end(1), false);
        due("end(-1) of none", new Reader().end(-1), false);
        Reader x = withBytes(countedBytes(5, 45));
        x.end(10);
        due("end(11) behind end(10)", x.end(11), false);
        dueBytes("end(11) behind end(10)", x, countedBytes(5, 10));
    }

    private void harmTurnsBits() {
        sentence("A byte of the TAPE becomes what it was with the bits of b (its lowest eight) turned: true;");
        int[] turns = {0, 1, 2, 4, 8, 16, 32, 64, 128, 255, 0x55, 256, 257, 0x7fffff00, 0xffffff00, -1, -256, -255,
            Integer.MIN_VALUE, Integer.MAX_VALUE};
        for (int b : turns) {
            for (int i : new int[] {0, 1, 20, 43, 44}) {
                Reader x = withBytes(countedBytes(90, 45));
                due("harm(" + i + ", " + b + ")", x.harm(i, b), true);
                List<Integer> bytes = countedBytes(90, 45);
                bytes.set(i, bytes.get(i) ^ (b & 255));
                dueBytes("harm(" + i + ", " + b + ")", x, bytes);
            }
        }
        Reader x = withBytes(countedBytes(90, 45));
        x.harm(7, 0x35);
        x.harm(7, 0x35);
        dueBytes("turned twice it is as it was", x, countedBytes(90, 45));
    }

    private void harmRefused() {
        sentence("false if there is none such.");
        for (int i : new int[] {45, 46, 59, 5999, 6000, 6001, Integer.MAX_VALUE, -1, -45, Integer.MIN_VALUE}) {
            Reader x = withBytes(countedBytes(90, 45));
            due("harm(" + i + ")", x.harm(i, 255), false);
            dueBytes("harm(" + i + ")", x, countedBytes(90, 45));
        }
        due("harm of an empty TAPE", new Reader().harm(0, 255), false);
        Reader full = withBytes(Songs.pageOfSize(6000));
        due("harm(5999) of 6000", full.harm(5999, 0), true);
        due("harm(6000) of 6000", full.harm(6000, 1), false);
        full.read();
        due("harm behind a read", full.harm(0, 1), false);
    }

    private void pageOfBytesFromAPlaceOn() {
        sentence("The bytes of the TAPE from a place on become the body of one PAGE, which comes in their place:");
        for (int from = 0; from <= 45; from++) {
            Reader x = withBytes(countedBytes(3, 45));
            due("page(" + from + ")", x.page(from, 1, 2, 3, 4, false), 45 + 28);
            List<Integer> bytes = countedBytes(3, from);
            bytes.addAll(SongModel.pageOf(1, 2, 3, 4, SongWriter.row(45 - from), countedBytes(3 + 11 * from, 45 - from)));
            dueBytes("page(" + from + ")", x, bytes);
        }
        // A PAGE round a PAGE.
        Reader x = withBytes(countedBytes(3, 9));
        x.page(4, 0, 0, 1, 0, false);
        due("page of a PAGE", x.page(4, 0, 0, 1, 0, false), 9 + 28 + 28);
        List<Integer> inner = SongModel.pageOf(0, 0, 1, 0, SongWriter.row(5), countedBytes(3 + 44, 5));
        List<Integer> bytes = countedBytes(3, 4);
        bytes.addAll(SongModel.pageOf(0, 0, 1, 0, SongWriter.row(33), inner));
        dueBytes("page of a PAGE", x, bytes);
    }

    private void pageWritesItsHead() {
        sentence("FLAGS (lowest eight bits), GRANULE, SERIAL, NUMBER,");
        int[] numbers = {0, 1, 255, 256, 0x01020304, -1, -2, Integer.MIN_VALUE, Integer.MAX_VALUE, 0x80402010};
        long[] granules = {0, 1, 255, 256, 0x0102030405060708L, -1, -2, Long.MIN_VALUE, Long.MAX_VALUE, 1L << 32};
        for (int i = 0; i < numbers.length; i++) {
            for (int which = 0; which < 4; which++) {
                int flags = which == 0 ? numbers[i] : 0;
                long granule = which == 1 ? granules[i] : 0;
                int serial = which == 2 ? numbers[i] : 0;
                int number = which == 3 ? numbers[i] : 0;
                Reader x = withBytes(countedBytes(8, 3));
                x.page(0, flags, granule, serial, number, false);
                dueBytes("page with " + flags + ", " + granule + ", " + serial + ", " + number, x,
                    SongModel.pageOf(flags, granule, serial, number, SongWriter.row(3), countedBytes(8, 3)));
            }
        }
        for (int bit = 0; bit < 64; bit++) {
            Reader x = new Reader();
            x.page(0, 1 << bit, 1L << bit, 1 << bit, 1 << bit + 7, false);
            dueBytes("page with bit " + bit, x,
                SongModel.pageOf(1 << bit, 1L << bit, 1 << bit, 1 << bit + 7, SongWriter.row(0), Songs.none()));
        }
    }

    private void pageWritesLaces() {
        sentence("LACES of 255 as long as they go, then the rest (0, if none; without it, if open), its CRC right:");
        int[] bodies = {0, 1, 2, 253, 254, 255, 256, 257, 300};
        for (int body : bodies) {
            List<Integer> laces = body < 255 ? SongWriter.row(body) : SongWriter.row(255, body - 255);
            Reader x = withBytes(countedBytes(8, body));
            due("page of " + body, x.page(0, 0, 0, 1, 0, false), body + 27 + laces.size());
            dueBytes("page of " + body, x, SongModel.pageOf(0, 0, 1, 0, laces, countedBytes(8, body)));
        }
        Reader none = new Reader();
        due("page of none, open", none.page(0, 0, 0, 1, 0, true), 27);
        dueBytes("page of none, open", none, SongModel.pageOf(0, 0, 1, 0, Songs.none(), Songs.none()));
        Reader even = withBytes(countedBytes(8, 255));
        due("page of 255, open", even.page(0, 0, 0, 1, 0, true), 255 + 28);
        dueBytes("page of 255, open", even, SongModel.pageOf(0, 0, 1, 0, SongWriter.row(255), countedBytes(8, 255)));
        // More LACES: how many bytes there are, and what read() finds.
        for (int body = 508; body <= 2042; body++) {
            if (body % 255 > 1 && body % 255 < 254) {
                continue;
            }
            for (int open = 0; open < (body % 255 == 0 ? 2 : 1); open++) {
                Reader x = withBytes(countedBytes(8, body));
                due("page of " + body, x.page(0, 0, 0, 1, 0, open == 1), body + 27 + body / 255 + 1 - open);
                x.read();
                due("page of " + body + " is right", x.look(0), 1);
                due("page of " + body + ": its PACKET", x.look(7), open == 1 || body > 2000 ? 0 : body);
            }
        }
    }

    private void pageAnswers() {
        sentence("how many bytes the TAPE has. NONE, and nothing happens, if there is no such place (0 to how many it has),");
        for (int from : new int[] {-1, 46, 47, 6000, Integer.MAX_VALUE, Integer.MIN_VALUE}) {
            for (int open = 0; open < 2; open++) {
                Reader x = withBytes(countedBytes(3, 45));
                due("page(" + from + ")", x.page(from, 0, 0, 1, 0, open == 1), -1);
                dueBytes("page(" + from + ")", x, countedBytes(3, 45));
            }
        }
        due("page(0) of none", new Reader().page(0, 0, 0, 1, 0, false), 28);
        due("page(1) of none", new Reader().page(1, 0, 0, 1, 0, false), -1);
        Reader x = withBytes(countedBytes(3, 45));
        due("page at the end", x.page(45, 0, 0, 1, 0, false), 73);
        due("taped then", x.taped(), 73);
        due("page behind the end", x.page(74, 0, 0, 1, 0, false), -1);
    }

    private void pageRefused() {
        // 6000 bytes give 24 LACES at the most: that there would be more than 255 is never the only hindrance.
        sentence("there would be more than 255 LACES, open and they do not come out even,");
        for (int body : new int[] {1, 2, 254, 256, 257, 300}) {
            Reader x = withBytes(countedBytes(3, body));
            due("page of " + body + ", open", x.page(0, 0, 0, 1, 0, true), -1);
            dueBytes("page of " + body + ", open", x, countedBytes(3, body));
        }
        for (int body : new int[] {509, 511, 5864, 5866}) {
            Reader x = withBytes(countedBytes(3, body));
            due("page of " + body + ", open", x.page(0, 0, 0, 1, 0, true), -1);
            due("page of " + body + ", open: taped", x.taped(), body);
        }
        // 23 LACES of 255, the most that there is room for.
        Reader x = withBytes(countedBytes(3, 5865));
        due("page of 5865, open", x.page(0, 0, 0, 1, 0, true), 5865 + 27 + 23);
        x.read();
        due("page of 5865, open, is right", x.look(0), 1);
    }

    private void pageRefusedFor6000() {
        sentence("or more than 6000 bytes.");
        // The TAPE's size, from how far behind the page goes, and whether it is open; the last that fits.
        dueLastFit(5949, 5949, false);
        dueLastFit(5972, 0, false);
        dueLastFit(5973, 0, true);
        dueLastFit(5972, 254, false);
        dueLastFit(5971, 255, false);
        dueLastFit(5972, 255, true);
        dueLastFit(5971, 300, false);
        dueLastFit(5970, 510, false);
        dueLastFit(5971, 510, true);
    }

    private void dueLastFit(int size, int body, boolean open) {
        for (int more = -1; more <= 1; more++) {
            String what = "page of " + body + " of " + (size + more) + (open ? ", open" : "");
            int itsBody = open || body < 5000 ? body : body + more;
            int from = size + more - itsBody;
            Reader x = withBytes(Songs.pageOfSize(size + more));
            due(what, x.page(from, 0, 0, 1, 0, open), more > 0 ? -1 : 6000 + more);
            due(what + ": taped", x.taped(), more > 0 ? size + more : 6000 + more);
            if (more > 0) {
                x.read();
                due(what + ": nothing happens", x.look(0), 1);
            }
        }
    }

    private void readUsesTheTapeUp() {
        sentence("Uses the TAPE up (it is empty behind the call):");
        Reader x = Songs.laid(Songs.plainSetup(1), Songs.silence(), Songs.silence());
        x.read();
        due("taped behind a read", x.taped(), 0);
        due("harm behind a read", x.harm(0, 0), false);
        due("end(1) behind a read", x.end(1), false);
        due("page(1) behind a read", x.page(1, 0, 0, 1, 0, false), -1);
        due("read again", x.read(), -1);
        due("feed behind a read", x.feed(0, 0, 0, 0, 0), 20);
        Reader fault = withBytes(countedBytes(3, 45));
        due("read with a FAULT", fault.read(), -1);
        due("taped behind a FAULT", fault.taped(), 0);
        // What the read left behind inside comes to no one's ears: the TAPE is fed anew over it.
        Reader twice = Songs.laid(Songs.plainSetup(1), Songs.silence(), Songs.silence());
        twice.read();
        twice.feed(0, 0, 0, 0, 0);
        due("nothing of the old TAPE", twice.read(), -1);
        due("nothing of the old TAPE: PAGES", twice.look(0), 0);
        // A full TAPE can be fed anew.
        Reader full = withBytes(SongWriter.many(6000, 79));
        full.read();
        due("feed behind a full TAPE's read", full.feed(0, 0, 0, 0, 0), 20);
    }

    private void readAnswersSamples() {
        sentence("it is read: how many SAMPLES of each CHANNEL there are;");
        for (int channels = 1; channels <= 2; channels++) {
            for (int sounds = 0; sounds < 70; sounds++) {
                List<List<Integer>> packets = new ArrayList<>();
                packets.add(Songs.plainSetup(channels));
                for (int i = 0; i < sounds; i++) {
                    packets.add(Songs.silence());
                }
                Reader x = Songs.laidTogether(packets);
                int due = 16 * Math.max(0, Math.min(59, sounds) - 1);
                due("read of " + sounds + " SOUNDS", x.read(), due);
                due("SOUNDS that counted", x.look(3), Math.min(59, sounds));
            }
        }
    }

    private void readAnswersFaults() {
        sentence("less the FAULT of the SETUP.");
        due("FAULT 1", Songs.answer(), -1);
        due("FAULT 2", Songs.answer(SongWriter.row(86)), -2);
        due("FAULT 3", Songs.answer(SongWriter.row(1)), -3);
        due("FAULT 4", Songs.answer(new SongWriter().start(1, 1).book(1, 2).bytes()), -4);
        due("FAULT 5", Songs.answer(new SongWriter().start(1, 1).book(1, 1).posts(1, 1).bytes()), -5);
        due("FAULT 6", Songs.answer(new SongWriter().start(1, 1).book(1, 1).posts(1, 0, 0).bytes()), -6);
        due("FAULT 7", Songs.answer(new SongWriter().start(1, 1).book(1, 1).posts(1, 0).classes(0, 0, 0).bytes()), -7);
        // SOUNDS behind a FAULT give no SAMPLES.
        Reader x = Songs.laid(SongWriter.row(86), Songs.silence(), Songs.silence(), Songs.silence());
        due("SOUNDS behind a FAULT", x.read(), -2);
        dueLooks("SOUNDS behind a FAULT", x, 4, 0, 4, 0, 0, 0, 0, 1);
    }

    /** A song that is heard in both CHANNELS, cut at 30 of 32 SAMPLES. */
    private static Reader loudSong() {
        SongWriter setup = new SongWriter().start(2, 2).lengths(1, 1, 1).values(20, 200, false, 8, 255, 0)
            .book(1, 1).posts(1, 1).classes(0, 1, 0).put(0, 1);
        SongWriter sound = new SongWriter().put(1, 1).put(200, 8).put(215, 8).put(1, 1).put(190, 8).put(210, 8);
        for (int k = 0; k < 32; k++) {
            sound.word("0").word(k % 5 == 0 ? "0" : "1");
        }
        Reader x = new Reader();
        Songs.layPage(x, 0, 0, 0, setup.bytes());
        Songs.layPage(x, 0, 0, 1, sound.bytes());
        Songs.layPage(x, 0, 0, 2, sound.bytes());
        Songs.layPage(x, 4, 30, 3, sound.bytes());
        return x;
    }

    private void dueNothingIsLeft(String what, Reader x) {
        for (int channel = 0; channel < 2; channel++) {
            due(what + ": sum", x.sum(channel), 0);
            for (int i = 0; i < 32; i++) {
                due(what + ": SAMPLE " + i, x.sample(channel, i), 0);
            }
        }
    }

    private void readForgets() {
        sentence("What was read before is gone.");
        Reader x = loudSong();
        due("a song", x.read(), 30);
        due("a song is heard", x.sum(0) != 0 && x.sum(1) != 0, true);
        due("an empty TAPE", x.read(), -1);
        dueNothingIsLeft("behind FAULT 1", x);
        dueLooks("behind FAULT 1", x, 0, 0, 0, 0, 0, 0, 0, 0);
        Reader fault = loudSong();
        fault.read();
        Songs.layPage(fault, 0, 0, 0, SongWriter.row(86));
        due("a FAULT", fault.read(), -2);
        dueNothingIsLeft("behind FAULT 2", fault);
        dueLooks("behind FAULT 2", fault, 1, 0, 1, 0, 0, 0, 0, 1);
        // One CHANNEL where there were two; a SOUND ahead is none of the song before.
        Reader shorter = loudSong();
        shorter.read();
        Songs.layPage(shorter, 0, 0, 0, Songs.plainSetup(1));
        Songs.layPage(shorter, 0, 0, 1, Songs.silence());
        due("a SOUND alone, behind a song", shorter.read(), 0);
        dueNothingIsLeft("a SOUND alone, behind a song", shorter);
        Reader silent = loudSong();
        silent.read();
        Songs.layPage(silent, 0, 0, 0, Songs.plainSetup(1));
        Songs.layPage(silent, 0, 0, 1, Songs.silence());
        Songs.layPage(silent, 0, 0, 2, Songs.silence());
        due("silence behind a song", silent.read(), 16);
        dueNothingIsLeft("silence behind a song", silent);
        // What is begun, the NUMBER and the SERIAL of the PAGE ahead, LAST and GRANULE: all of the TAPE before.
        Reader begun = new Reader();
        Songs.layOpenPage(begun, 0, 0, 1);
        begun.read();
        Songs.layLaces(begun, 1, 1, 86, 4, 1);
        due("what was begun on the TAPE before", begun.read(), -2);
        dueLooks("what was begun on the TAPE before", begun, 1, 0, 1, 0, 0, 0, 0, 1);
        begun.page(0, 0, 0, 77, 0, false);
        begun.read();
        due("the SERIAL of the TAPE before", begun.look(0), 1);
        anySongBehindAny();
    }

    private static List<Integer> song(int flags, long granule, List<List<Integer>> packets) {
        List<Integer> bytes = new ArrayList<>();
        for (int i = 0; i < packets.size(); i++) {
            List<Integer> laces = new ArrayList<>();
            for (int rest = packets.get(i).size(); rest >= 0; rest -= 255) {
                laces.add(Math.min(255, rest));
            }
            int its = i == packets.size() - 1 ? flags : 0;
            bytes.addAll(SongModel.pageOf(its, granule, 1, i, laces, packets.get(i)));
        }
        return bytes;
    }

    /** Songs whose SETUPS, SOUNDS and PAGES have as little in common as can be. */
    private static List<List<Integer>> songs() {
        List<List<Integer>> songs = new ArrayList<>();
        List<Integer> ones = SongWriter.many(40, 255);
        List<Integer> mixed = countedBytes(1, 60);
        mixed.set(0, 239);
        // Two CHANNELS that lean, the last SOUND is heard in both; one CHANNEL with a bit 1 where LEANING would be.
        SongWriter leaning = new SongWriter().start(2, 2).lengths(1, 2, 2, 2, 2).values(-90, 100, false, 3, 0, 7, 2, 5)
            .book(1, 1, 1).posts(1, 1, 8, 4, 12).classes(0, 1, 0, 0).put(1, 1);
        songs.add(song(0, 0, List.of(leaning.bytes(), mixed, ones, mixed)));
        SongWriter alone = new SongWriter().start(1, 2).lengths(1, 2, 2, 2, 2).values(-90, 100, false, 3, 0, 7, 2, 5)
            .book(1, 1, 1).posts(1, 1, 8).classes(0, 1, 0, 0).put(1, 1);
        songs.add(song(4, 7, List.of(alone.bytes(), mixed, ones, mixed)));
        // BOOKS of one ENTRY, for which a 1 cannot be.
        SongWriter one = new SongWriter().start(1, 1).lengths(1, 1).values(100, 100, false, 4, 9).posts(1, 0).classes(0, 0, 0);
        songs.add(song(0, 0, List.of(one.bytes(), full("0000"), full("00001111"), full("0"))));
        // Eight BOOKS of 64 ENTRIES, fifteen POSTS.
        SongWriter many = new SongWriter().start(2, 8);
        for (int i = 0; i < 8; i++) {
            many.lengths(2, Songs.lengths(64)).values(10 * i, i, true, 8, 10, 20, 30, 40, 50, 60, 70, 80);
        }
        many.posts(1, 5, 15, 14, 13, 12, 11, 10, 9, 8, 7, 6, 5, 4, 3, 2, 1).classes(3, 4, 3, 9, 6, 0).put(0, 1);
        songs.add(song(0, 0, List.of(many.bytes(), mixed, mixed, ones)));
        // A deep tree, few POSTS, MULTIPLIER 4; a BOOK without VALUES where another song has some.
        SongWriter deep = new SongWriter().start(1, 3).book(1, 15, 1, 2, 3, 4, 5, 6, 7, 8, 9, 10, 11, 12, 13, 14, 15)
            .book(3, 1, 2, 2).lengths(1, 3, 1, 2, 3).values(30, 200, false, 2, 3, 2, 1, 0).posts(4, 0, 3, 9).classes(1, 1, 2, 15, 2);
        songs.add(song(4, -1, List.of(deep.bytes(), ones, mixed, mixed)));
        // FAULTS: a tree with too many words, an end in VALUES, an X; no PACKET at all.
        songs.add(song(4, 3, List.of(new SongWriter().start(2, 2).book(1, 1, 1).book(1, 3, 3, 1, 1).bytes(), mixed)));
        songs.add(song(0, 0, List.of(new SongWriter().start(1, 1).lengths(4, 1).put(1, 1).put(9, 8).bytes(), mixed)));
        songs.add(song(0, 0, List.of(new SongWriter().start(1, 1).book(1, 1).posts(3, 0, 8, 3, 8).bytes(), mixed)));
        songs.add(countedBytes(7, 50));
        // Another SERIAL, a PACKET too long, one begun at the end, SOUNDS passed over.
        List<Integer> others = song(4, 1, List.of(Songs.plainSetup(2), Songs.none(), SongWriter.many(2001, 1), Songs.silence()));
        others.addAll(SongModel.pageOf(4, 0, 9, 9, SongWriter.row(1), SongWriter.row(1)));
        others.addAll(SongModel.pageOf(0, 0, 1, 9, SongWriter.row(3, 255), SongWriter.many(258, 1)));
        songs.add(others);
        return songs;
    }

    private static List<Integer> full(String bits) {
        return new SongWriter().put(1, 1).put(255, 8).put(255, 8).word(bits).bytes();
    }

    /** Each song reads alike, whether it is an object's first or comes behind another. */
    private void anySongBehindAny() {
        List<List<Integer>> songs = songs();
        for (int first = 0; first < songs.size(); first++) {
            for (int second = 0; second < songs.size(); second++) {
                String what = "song " + second + " behind song " + first;
                Reader fresh = withBytes(songs.get(second));
                Reader x = withBytes(songs.get(first));
                x.read();
                Songs.lay(x, songs.get(second));
                due(what, x.read(), fresh.read());
                for (int i = 0; i < 8; i++) {
                    due(what + ": look(" + i + ")", x.look(i), fresh.look(i));
                }
                for (int c = 0; c < 2; c++) {
                    due(what + ": sum", x.sum(c), fresh.sum(c));
                    for (int i = 0; i < 48; i++) {
                        due(what + ": SAMPLE " + i, x.sample(c, i), fresh.sample(c, i));
                    }
                }
            }
        }
    }

    private void sampleIsNoneSuch() {
        sentence("A SAMPLE; 0 if there is none such.");
        Reader x = loudSong();
        due("read", x.read(), 30);
        due("the first SAMPLE is heard", x.sample(0, 15) != 0 && x.sample(1, 15) != 0, true);
        due("the last SAMPLE is heard", x.sample(0, 29) != 0 && x.sample(1, 29) != 0, true);
        for (int channel = 0; channel < 2; channel++) {
            due("sample(30)", x.sample(channel, 30), 0);
            due("sample(31)", x.sample(channel, 31), 0);
            due("sample(32)", x.sample(channel, 32), 0);
            due("sample(928)", x.sample(channel, 928), 0);
            for (int far : FAR) {
                due("sample(" + far + ")", x.sample(channel, far), 0);
            }
        }
        for (int i = 0; i < 30; i++) {
            due("CHANNEL 2", x.sample(2, i), 0);
            due("CHANNEL -1", x.sample(-1, i), 0);
        }
        for (int far : FAR) {
            due("CHANNEL " + far, x.sample(far, 29), 0);
            due("CHANNEL " + far + " far", x.sample(far, far), 0);
        }
        // The same song uncut has the two SAMPLES more.
        Reader whole = loudSong();
        Songs.layPage(whole, 0, 30, 4, Songs.none());
        due("read uncut", whole.read(), 32);
        due("sample(30) uncut", whole.sample(0, 30) != 0, true);
        oneChannelHasNoSecond();
    }

    private void oneChannelHasNoSecond() {
        SongWriter setup = new SongWriter().start(1, 2).lengths(1, 1).values(100, 100, false, 8, 100)
            .book(1, 1).posts(1, 1).classes(0, 1, 0);
        Reader x = Songs.played(setup, new SongWriter().put(1, 1).put(240, 8).put(240, 8).word(Songs.zeros(39)));
        due("CHANNEL 0 of one", x.sample(0, 12) != 0, true);
        for (int i = 0; i < 32; i++) {
            due("CHANNEL 1 of one", x.sample(1, i), 0);
        }
        due("sum of CHANNEL 0 of one", x.sum(0) != 0, true);
        due("sum of CHANNEL 1 of one", x.sum(1), 0);
    }

    private void lookAheadOfAny() {
        sentence("Of the latest read() (0 ahead of any):");
        Reader x = Songs.laid(Songs.plainSetup(2), Songs.silence(), Songs.none());
        dueLooks("ahead of any", x, 0, 0, 0, 0, 0, 0, 0, 0);
        due("read", x.read(), 0);
        int length = Songs.plainSetup(2).size();
        dueLooks("of the read", x, 3, 0, 3, 1, 1, 2, 0, length);
        Songs.layPage(x, 0, 0, 0, Songs.plainSetup(1));
        dueLooks("until the next read", x, 3, 0, 3, 1, 1, 2, 0, length);
        x.read();
        dueLooks("of the latest", x, 1, 0, 1, 0, 0, 1, 0, Songs.plainSetup(1).size());
        x.read();
        dueLooks("of an empty one", x, 0, 0, 0, 0, 0, 0, 0, 0);
    }

    private void lookTells() {
        sentence("what 0 right PAGES that count, 1 right ones of another SERIAL, 2 PACKETS that count, 3 SOUNDS that counted, "
            + "4 that were passed over,");
        Reader x = new Reader();
        Songs.layPage(x, 0, 0, 0, Songs.plainSetup(2));
        x.page(x.taped(), 0, 0, 2, 1, false);
        Songs.layLaces(x, 0, 1, 0, 1, 0, 1, 0, 0, 1);
        x.page(x.taped(), 0, 0, 3, 2, true);
        Songs.layPage(x, 0, 0, 2, Songs.none());
        Songs.layPage(x, 0, 0, 3, Songs.silence());
        x.page(x.taped(), 0, 0, 1, 4, true);
        int harmed = x.taped();
        Songs.layPage(x, 0, 0, 5, Songs.silence());
        x.harm(harmed + 28, 1);
        due("read", x.read(), 48);
        dueLooks("all kinds", x, 5, 2, 9, 4, 4, 2, 0, Songs.plainSetup(2).size());
        sentence("5 CHANNELS (0 with a FAULT),");
        for (int channels = 1; channels <= 2; channels++) {
            due("CHANNELS", readOf(Songs.laid(Songs.plainSetup(channels))).look(5), channels);
            SongWriter bad = new SongWriter().start(channels, 1).book(1, 1).posts(1, 0).classes(0, 0, 0).put(0, 1);
            due("CHANNELS with a FAULT", readOf(Songs.laid(bad.bytes())).look(5), 0);
            due("CHANNELS with an end", readOf(Songs.laid(Songs.plainSetup(channels).subList(0, 3))).look(5), 0);
        }
        due("CHANNELS without a PACKET", readOf(new Reader()).look(5), 0);
        sentence("6 PACKETS thrown away for their length (told at their ends),");
        lookOfTooLong();
        sentence("7 bytes of the longest PACKET.");
        due("no PACKET", readOf(new Reader()).look(7), 0);
        due("an empty PACKET", readOf(Songs.laid(Songs.none())).look(7), 0);
        for (int length : new int[] {1, 254, 255, 256, 1999, 2000}) {
            due("the first", readOf(Songs.laid(SongWriter.many(length, 9), SongWriter.row(1))).look(7), length);
            due("the last", readOf(Songs.laid(SongWriter.row(1), SongWriter.many(length, 9))).look(7), length);
        }
        due("not one too long", readOf(Songs.laid(SongWriter.many(3, 9), SongWriter.many(2001, 9))).look(7), 3);
    }

    private static Reader readOf(Reader x) {
        x.read();
        return x;
    }

    private void lookOfTooLong() {
        for (int count = 0; count <= 2; count++) {
            Reader x = new Reader();
            for (int i = 0; i < count; i++) {
                Songs.layPage(x, 0, 0, i, SongWriter.many(2001, 9));
            }
            due("too long ones", readOf(x).look(6), count);
        }
        // The end is on a PAGE of its own; without that PAGE, or with what throws the begun away, it is not told.
        for (int end = 0; end < 5; end++) {
            Reader x = new Reader();
            Songs.layOpenPage(x, 0, 0, 8);
            if (end > 0) {
                Songs.layPage(x, end == 2 ? 0 : 1, 0, end == 3 ? 2 : 1, end == 4 ? SongWriter.row(1, 2) : Songs.none());
            }
            due("told at its end, " + end, readOf(x).look(6), end == 1 || end == 4 ? 1 : 0);
        }
        due("2000 are not too long", readOf(Songs.laid(SongWriter.many(2000, 9))).look(6), 0);
    }

    private void lookOfAnother() {
        sentence("NONE for another what.");
        Reader x = loudSong();
        for (int round = 0; round < 2; round++) {
            for (int what : new int[] {8, 9, 10, 15, 16, 255, 263}) {
                due("look(" + what + ")", x.look(what), -1);
            }
            for (int far : FAR) {
                due("look(" + far + ")", x.look(far), -1);
            }
            x.read();
        }
    }

    private void sumOfSamples() {
        sentence("The sum of all SAMPLES of a CHANNEL, each times 1 and its number,");
        Reader x = loudSong();
        x.read();
        for (int channel = 0; channel < 2; channel++) {
            int total = 0;
            for (int i = 0; i < 30; i++) {
                total += x.sample(channel, i) * (1 + i);
            }
            due("sum of CHANNEL " + channel, x.sum(channel), total);
            due("sum of CHANNEL " + channel + " is heard", total != 0, true);
        }
        due("the CHANNELS' sums differ", x.sum(0) != x.sum(1), true);
        // Of no SAMPLES, of just one (whose number is 0), of two.
        for (int cut = 0; cut <= 3; cut++) {
            Reader few = loudSong();
            few.page(few.taped(), 4, cut, 1, 4, true);
            due("cut", few.read(), cut);
            int total = 0;
            for (int i = 0; i < 32; i++) {
                total += few.sample(1, i) * (1 + i);
            }
            due("sum of " + cut, few.sum(1), total);
        }
    }

    private void sumGoesRound() {
        sentence("going round at 32 bits; 0 if there is none such.");
        SongWriter setup = new SongWriter().start(1, 2).lengths(1, 1, 1).values(0, 255, false, 8, 255, 0)
            .book(1, 1).posts(1, 1).classes(0, 1, 0);
        SongWriter sound = new SongWriter().put(1, 1).put(255, 8).put(255, 8).word("00").word("01");
        boolean above = false;
        boolean below = false;
        for (int sounds = 10; sounds <= 59; sounds += 7) {
            List<List<Integer>> packets = new ArrayList<>();
            packets.add(setup.bytes());
            for (int i = 0; i < sounds; i++) {
                packets.add(sound.bytes());
            }
            Reader x = Songs.laidTogether(packets);
            x.read();
            // Like SOUNDS give like blocks of sixteen.
            long total = 0;
            for (int i = 0; i < 16; i++) {
                long value = x.sample(0, i);
                due("like blocks", x.sample(0, 16 * (sounds - 2) + i), value);
                for (int block = 0; block < sounds - 1; block++) {
                    total += value * (1 + 16 * block + i);
                }
            }
            due("sum of " + sounds + " SOUNDS", x.sum(0), (int) total);
            above = above || total > Integer.MAX_VALUE;
            below = below || total < Integer.MIN_VALUE;
        }
        due("it goes round indeed", above || below, true);
        Reader x = loudSong();
        due("ahead of any read", x.sum(0), 0);
        x.read();
        due("sum of CHANNEL 2", x.sum(2), 0);
        for (int far : FAR) {
            due("sum of CHANNEL " + far, x.sum(far), 0);
        }
        x.read();
        due("sum with a FAULT", x.sum(0), 0);
    }

    private void tapedTells() {
        sentence("How many bytes the TAPE has.");
        Reader x = new Reader();
        due("of none", x.taped(), 0);
        x.feed(0, 0, 0, 0, 0);
        due("of a feed", x.taped(), 20);
        x.end(3);
        due("of an end", x.taped(), 3);
        x.end(4);
        due("of an end refused", x.taped(), 3);
        x.page(1, 0, 0, 1, 0, false);
        due("of a page", x.taped(), 31);
        x.page(32, 0, 0, 1, 0, false);
        due("of a page refused", x.taped(), 31);
        x.harm(0, 1);
        due("of a harm", x.taped(), 31);
        x.look(0);
        x.sample(0, 0);
        x.sum(0);
        due("of what tells alone", x.taped(), 31);
        due("of itself", x.taped(), 31);
        x.read();
        due("of a read", x.taped(), 0);
        due("of a full one", withBytes(SongWriter.many(6000, 0)).taped(), 6000);
    }
}
