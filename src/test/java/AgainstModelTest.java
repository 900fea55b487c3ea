import java.util.ArrayList;
import java.util.Collections;
import java.util.List;
import java.util.Random;

/** Songs made at random (always the same ones), read by SongReader and by SongModel: no answer may differ. */
public final class AgainstModelTest {
    private static final int SONGS = 4000;
    private static final int CALLS_FOR_A_SONG = 300;
    private static final int CALLS_TO_COMPARE = 60;

    private static int wrong = 0;
    private static final int[] reads = new int[8];
    private static final long[] seen = new long[8];
    private static int heldSamples = 0;
    private static int cutReads = 0;
    private static int leaningReads = 0;

    private final Random random;
    private final long seed;
    private Reader reader = new Reader();
    private SongModel model = new SongModel();

    private AgainstModelTest(long seed) {
        this.seed = seed;
        this.random = new Random(seed);
    }

    public static void main(String[] args) {
        for (long seed = 1; seed <= SONGS && wrong < 20; seed++) {
            AgainstModelTest test = new AgainstModelTest(seed);
            // The same object reads several songs: what was read before is gone.
            for (int i = 0; i < 3; i++) {
                test.songOfAnyKind();
            }
        }
        for (int fault = 0; fault < 8; fault++) {
            require("reads with FAULT " + fault, reads[fault], 20);
            require("songs with look(" + fault + ") above 0", seen[fault], 20);
        }
        require("SAMPLES held", heldSamples, 20);
        require("reads cut by their GRANULE", cutReads, 20);
        require("LEANING songs", leaningReads, 20);
        System.out.println(wrong == 0 ? "the model answers alike" : wrong + " answers are not the model's");
        System.exit(wrong == 0 ? 0 : 1);
    }

    private static void require(String what, long count, int least) {
        if (count < least) {
            wrong++;
            System.out.println("too few for a test: " + what + ": " + count);
        }
    }

    private void same(String call, long got, long want) {
        if (got != want) {
            wrong++;
            System.out.println("song " + seed + ": " + call + " answered " + got + ", the model " + want);
        }
    }

    private int below(int bound) {
        return random.nextInt(bound);
    }

    private boolean chance(int percent) {
        return below(100) < percent;
    }

    private void songOfAnyKind() {
        // An object's calls are counted: one that has few left is no use for a further song.
        if (reader.left() < CALLS_FOR_A_SONG) {
            reader = new Reader();
            model = new SongModel();
        }
        List<List<Integer>> packets = packets();
        if (chance(50)) {
            layByPages(packets);
        } else {
            layByBytes(packets);
        }
        if (chance(20)) {
            harmSome();
        }
        same("taped()", reader.taped(), model.taped());
        compareRead();
    }

    private void compareRead() {
        int answer = model.read();
        same("read()", reader.read(), answer);
        same("taped()", reader.taped(), model.taped());
        for (int what = -1; what < 9; what++) {
            same("look(" + what + ")", reader.look(what), model.look(what));
        }
        for (int channel = -1; channel < 3; channel++) {
            same("sum(" + channel + ")", reader.sum(channel), model.sum(channel));
        }
        compareSamples(Math.max(answer, 0));
        reads[Math.max(0, -answer)]++;
        for (int what = 0; what < 8; what++) {
            seen[what] += model.look(what) > 0 ? 1 : 0;
        }
        cutReads += answer > 0 && answer % 16 != 0 ? 1 : 0;
    }

    /** Of some songs as many SAMPLES as there are calls for, of the others a few, so that more songs can follow. */
    private void compareSamples(int count) {
        int calls = chance(30) ? reader.left() : Math.min(20, reader.left());
        for (int i = 0; i < calls; i++) {
            int channel = chance(5) ? below(4) - 1 : below(2);
            int place = calls >= 2 * count ? i / 2 - 1 : below(count + 3) - 1;
            int due = model.sample(channel, place);
            same("sample(" + channel + ", " + place + ")", reader.sample(channel, place), due);
            heldSamples += due == 32767 || due == -32768 ? 1 : 0;
        }
    }

    private List<List<Integer>> packets() {
        List<List<Integer>> packets = new ArrayList<>();
        List<Integer> setup = setup();
        packets.add(chance(4) ? new ArrayList<>(setup.subList(0, below(setup.size() + 1))) : setup);
        int kind = below(10);
        int sounds = kind == 0 ? 50 + below(30) : below(9);
        int longest = kind == 0 ? 8 : 1 + below(60);
        for (int i = 0; i < sounds; i++) {
            packets.add(sound(below(longest + 1)));
        }
        if (chance(6)) {
            packets.add(below(packets.size() + 1), sound(1990 + below(300)));
        }
        if (chance(2)) {
            packets.clear();
        }
        return packets;
    }

    private List<Integer> sound(int length) {
        List<Integer> packet = new ArrayList<>();
        for (int i = 0; i < length; i++) {
            packet.add(below(256));
        }
        if (length > 0 && chance(70)) {
            packet.set(0, packet.get(0) | 1);
        }
        return packet;
    }

    private List<Integer> setup() {
        SongWriter bits = new SongWriter();
        int channels = 1 + below(2);
        int books = 1 + below(8);
        List<Integer> withValues = new ArrayList<>();
        List<Integer> widths = new ArrayList<>();
        bits.start(channels, books);
        if (chance(1)) {
            bits.put(1 + below(200), 8);
        }
        for (int i = 0; i < books; i++) {
            int width = chance(40) ? 1 : 1 + below(4);
            widths.add(width);
            int[] lengths = lengths();
            bits.lengths(width, lengths);
            if (chance(80)) {
                withValues.add(i);
                putValues(bits, width, lengths.length);
            } else {
                bits.put(0, 1);
            }
        }
        int sizeNumber = below(4);
        bits.posts(1 + below(4), chance(98) ? below(books) : below(8), xs());
        bits.classes(sizeNumber, chance(98) ? below(books) : below(8), classes(withValues, widths, 1 << sizeNumber));
        if (channels == 2) {
            int leaning = below(2);
            bits.put(leaning, 1);
            leaningReads += leaning;
        }
        List<Integer> bytes = bits.bytes();
        if (chance(1)) {
            bytes.set(0, below(256));
        }
        return bytes;
    }

    private void putValues(SongWriter bits, int width, int entries) {
        int q = 1;
        while (Math.pow(q + 1, width) <= entries) {
            q++;
        }
        int numberBits = 1 + below(8);
        int[] numbers = new int[q];
        for (int i = 0; i < q; i++) {
            numbers[i] = below(1 << numberBits);
        }
        bits.values(below(256), chance(50) ? below(4) : below(256), chance(40), numberBits, numbers);
    }

    private int[] xs() {
        List<Integer> all = new ArrayList<>();
        for (int x = 1; x < 16; x++) {
            all.add(x);
        }
        Collections.shuffle(all, random);
        int[] xs = new int[below(16)];
        for (int i = 0; i < xs.length; i++) {
            xs[i] = chance(1) && chance(30) ? below(32) : all.get(i);
        }
        return xs;
    }

    private int[] classes(List<Integer> withValues, List<Integer> widths, int size) {
        List<Integer> fit = new ArrayList<>();
        for (int book : withValues) {
            if (size % widths.get(book) == 0) {
                fit.add(book);
            }
        }
        int[] classes = new int[1 + below(4)];
        for (int i = 0; i < classes.length; i++) {
            boolean none = fit.isEmpty() || chance(15);
            classes[i] = none ? 8 + below(8) : fit.get(below(fit.size()));
            if (chance(2)) {
                classes[i] = below(16);
            }
        }
        return classes;
    }

    /** The LENGTHS of a whole tree, in any order, with some that are not used; now and then a wrong one. */
    private int[] lengths() {
        List<Integer> depths = new ArrayList<>();
        int entries = chance(30) ? 1 + below(64) : 1 + below(12);
        if (chance(8)) {
            depths.add(1);
        } else {
            int used = Math.max(2, entries - (chance(50) ? 0 : below(entries)));
            boolean deep = chance(15);
            depths.add(0);
            for (int i = 0; depths.size() < used && i < 1000; i++) {
                int which = deep && chance(80) ? depths.size() - 1 : below(depths.size());
                if (depths.get(which) < 15) {
                    int depth = depths.remove(which) + 1;
                    depths.add(depth);
                    depths.add(depth);
                }
            }
        }
        while (depths.size() < entries) {
            depths.add(0);
        }
        Collections.shuffle(depths, random);
        if (chance(1)) {
            depths.set(below(depths.size()), below(16));
        }
        if (chance(1)) {
            int least = below(15) + 1;
            depths.replaceAll(depth -> least + below(16 - least));
        }
        int[] lengths = new int[depths.size()];
        for (int i = 0; i < lengths.length; i++) {
            lengths[i] = depths.get(i);
        }
        return lengths;
    }

    private void lay(List<Integer> bytes) {
        for (int[] call : SongWriter.feeds(bytes)) {
            if (reader.left() < CALLS_TO_COMPARE) {
                return;
            }
            int before = model.taped();
            int due = model.feed(call[0], call[1], call[2], call[3], call[4]);
            same("feed(..)", reader.feed(call[0], call[1], call[2], call[3], call[4]), due);
            if (due >= 0 && call[5] < 20) {
                same("end(..)", reader.end(before + call[5]) ? 1 : 0, model.end(before + call[5]) ? 1 : 0);
            }
        }
    }

    private long granule(int packets) {
        int kind = below(6);
        if (kind == 0) {
            return random.nextLong();
        }
        return kind == 1 ? -1L - below(3) : below(16 * Math.max(1, packets));
    }

    private void layByPages(List<List<Integer>> packets) {
        int number = chance(20) ? -2 : below(5);
        int serial = random.nextInt();
        for (int i = 0; i < packets.size(); i++) {
            if (chance(3)) {
                lay(sound(below(40)));
            }
            List<Integer> packet = packets.get(i);
            int flags = (i == packets.size() - 1 ? 4 : 0) | (chance(2) ? below(256) : 0);
            int from = 0;
            while (packet.size() - from >= 255 && chance(60)) {
                int whole = 255 * (1 + below((packet.size() - from) / 255));
                layPage(packet.subList(from, from + whole), flags & ~4, serial, number++, true);
                flags = flags & 4 | 1;
                from += whole;
            }
            layPage(packet.subList(from, packet.size()), flags, serial, number++, false);
            number += chance(2) ? 1 : 0;
            if (chance(3)) {
                layPage(sound(below(30)), below(8), random.nextInt(), number, false);
            }
        }
    }

    private void layPage(List<Integer> body, int flags, int serial, int number, boolean open) {
        int from = model.taped();
        lay(new ArrayList<>(body));
        long granule = granule(6);
        if (reader.left() < CALLS_TO_COMPARE) {
            return;
        }
        int due = model.page(from, flags, granule, serial, number, open);
        same("page(..)", reader.page(from, flags, granule, serial, number, open), due);
    }

    /** Pages with any laces, more than one packet in each. */
    private void layByBytes(List<List<Integer>> packets) {
        List<Integer> laces = new ArrayList<>();
        List<Integer> bytes = new ArrayList<>();
        for (List<Integer> packet : packets) {
            int rest = packet.size();
            while (rest >= 255) {
                laces.add(255);
                rest -= 255;
            }
            laces.add(rest);
            bytes.addAll(packet);
        }
        int serial = random.nextInt();
        int number = chance(20) ? -2 : below(5);
        int at = 0;
        int from = 0;
        while (at < laces.size()) {
            int count = Math.min(laces.size() - at, chance(10) ? 0 : 1 + below(20));
            List<Integer> some = new ArrayList<>(laces.subList(at, at + count));
            int body = 0;
            for (int lace : some) {
                body += lace;
            }
            boolean goesOn = at > 0 && laces.get(at - 1) == 255;
            boolean last = at + count == laces.size();
            int flags = (goesOn ? 1 : 0) | (last ? 4 : 0) | below(32) << 3;
            flags ^= chance(3) ? 1 : 0;
            lay(SongModel.pageOf(flags, granule(packets.size()), serial, number, some, bytes.subList(from, from + body)));
            number += chance(2) ? 2 : 1;
            at += count;
            from += body;
            if (chance(3)) {
                lay(SongModel.pageOf(below(8), 0, random.nextInt(), number, SongWriter.row(3), SongWriter.row(1, 2, 3)));
            }
            if (chance(3)) {
                lay(sound(below(50)));
            }
        }
    }

    private void harmSome() {
        for (int i = 0; i < 2; i++) {
            int place = below(model.taped() + 20) - 10;
            int turn = random.nextInt();
            same("harm(..)", reader.harm(place, turn) ? 1 : 0, model.harm(place, turn) ? 1 : 0);
        }
        int n = chance(50) ? below(model.taped() + 20) - 10 : -1;
        same("end(..)", reader.end(n) ? 1 : 0, model.end(n) ? 1 : 0);
        int from = chance(30) ? below(model.taped() + 20) - 10 : -1;
        boolean open = chance(30);
        int due = model.page(from, 0, 5, 6, 7, open);
        same("page(..)", reader.page(from, 0, 5, 6, 7, open), due);
    }
}
