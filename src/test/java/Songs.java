import java.util.ArrayList;
import java.util.Arrays;
import java.util.List;

/** Songs for the tests, and what the document's sums make of them, written out. */
final class Songs {
    static final int[] RANGES = {0, 256, 128, 86, 64};
    static final int[] RANGE_BITS = {0, 8, 7, 7, 6};

    private static final int[] WINDOW = {
        15, 138, 379, 726, 1160, 1652, 2167, 2665, 3110, 3476, 3748, 3928, 4031, 4078, 4094, 4096
    };
    private static final long[] COSINES = new long[128];
    private static final long[] TABLE = new long[256];

    static {
        for (int j = 0; j < 128; j++) {
            COSINES[j] = Math.round(4096 * Math.cos(j * Math.PI / 64));
        }
        TABLE[255] = 65536;
        for (int i = 254; i >= 0; i--) {
            TABLE[i] = Math.floorDiv(15391 * TABLE[i + 1] + 8192, 16384L);
        }
    }

    private Songs() {
    }

    static List<Integer> silence() {
        return SongWriter.row(0);
    }

    static List<Integer> none() {
        return new ArrayList<>();
    }

    /** One BOOK of two ENTRIES with VALUES 0 and 1, no POSTS, SIZE 1, one CLASS; nothing LEANS. */
    static List<Integer> plainSetup(int channels) {
        return new SongWriter().start(channels, 1).lengths(1, 1, 1).values(0, 1, false, 1, 0, 1)
            .posts(1, 0).classes(0, 0, 0).put(0, 1).bytes();
    }

    /** Bytes behind the TAPE. */
    static void lay(Reader x, List<Integer> bytes) {
        int size = x.taped();
        for (int[] call : SongWriter.feeds(bytes)) {
            x.feed(call[0], call[1], call[2], call[3], call[4]);
            size += call[5];
            if (call[5] < 20) {
                x.end(size);
            }
        }
    }

    /** A PACKET on a PAGE of its own behind the TAPE, of SERIAL 1. */
    static void layPage(Reader x, int flags, long granule, int number, List<Integer> packet) {
        int from = x.taped();
        lay(x, packet);
        x.page(from, flags, granule, 1, number, false);
    }

    /** A PAGE of LACES of 255 alone, which tells the beginning of a PACKET. */
    static void layOpenPage(Reader x, int flags, int number, int laces) {
        int from = x.taped();
        lay(x, SongWriter.many(255 * laces, 7));
        x.page(from, flags, 0, 1, number, true);
    }

    /** A PAGE with any LACES behind the TAPE, its bytes all alike. */
    static void layLaces(Reader x, int flags, int number, int value, Integer... laces) {
        int body = 0;
        for (int lace : laces) {
            body += lace;
        }
        lay(x, SongModel.pageOf(flags, 0, 1, number, Arrays.asList(laces), SongWriter.many(body, value)));
    }

    @SafeVarargs
    static Reader laid(List<Integer>... packets) {
        Reader x = new Reader();
        for (int i = 0; i < packets.length; i++) {
            layPage(x, 0, 0, i, packets[i]);
        }
        return x;
    }

    /** What read() answers of these PACKETS. */
    @SafeVarargs
    static int answer(List<Integer>... packets) {
        return laid(packets).read();
    }

    /** One SOUND, read, with silence ahead and behind: 32 SAMPLES that are its own. */
    static Reader played(SongWriter setup, SongWriter sound) {
        Reader x = laid(setup.bytes(), silence(), sound.bytes(), silence());
        x.read();
        return x;
    }

    /** Many PACKETS on few PAGES. */
    static Reader laidTogether(List<List<Integer>> packets) {
        Reader x = new Reader();
        int number = 0;
        for (int at = 0; at < packets.size(); number++) {
            List<Integer> laces = new ArrayList<>();
            List<Integer> body = new ArrayList<>();
            while (at < packets.size() && laces.size() < 250) {
                for (int rest = packets.get(at).size(); rest >= 0; rest -= 255) {
                    laces.add(Math.min(255, rest));
                }
                body.addAll(packets.get(at));
                at++;
            }
            lay(x, SongModel.pageOf(0, 0, 1, number, laces, body));
        }
        return x;
    }

    /** A PAGE with the CRC that is due to its bytes. */
    static List<Integer> withRightCrc(List<Integer> page) {
        List<Integer> made = new ArrayList<>(page);
        for (int i = 22; i < 26; i++) {
            made.set(i, 0);
        }
        int crc = SongModel.crcOf(made);
        for (int i = 0; i < 4; i++) {
            made.set(22 + i, crc >>> (8 * i) & 255);
        }
        return made;
    }

    /** A right PAGE of so many bytes, 28 at the least. */
    static List<Integer> pageOfSize(int size) {
        int laceCount = (size - 27 + 255) / 256;
        int body = size - 27 - laceCount;
        List<Integer> laces = new ArrayList<>();
        for (int i = 0, rest = body; i < laceCount; i++) {
            laces.add(Math.min(255, rest));
            rest -= laces.get(i);
        }
        return SongModel.pageOf(0, 0, 1, 0, laces, SongWriter.many(body, 33));
    }

    static int rightPages(List<Integer> bytes) {
        Reader x = new Reader();
        lay(x, bytes);
        x.read();
        return x.look(0);
    }

    static long table(int place) {
        return TABLE[place];
    }

    static long[] halves(long[] factors) {
        long[] halves = new long[32];
        for (int n = 0; n < 32; n++) {
            long total = 2048;
            for (int k = 0; k < 16; k++) {
                total += factors[k] * COSINES[(2 * n + 17) * (2 * k + 1) % 128];
            }
            halves[n] = Math.floorDiv(Math.floorDiv(total, 4096L) * WINDOW[n < 16 ? n : 31 - n], 4096L);
        }
        return halves;
    }

    static int held(long sum) {
        return (int) Math.max(-32768, Math.min(32767, Math.floorDiv(sum, 256L)));
    }

    /** The factors of numbers under a CURVE with these places in TABLE. */
    static long[] factors(long[] numbers, int[] places) {
        long[] factors = new long[16];
        for (int k = 0; k < 16; k++) {
            factors[k] = Math.floorDiv(numbers[k] * table(places[k]), 256L);
        }
        return factors;
    }

    /** The factors of numbers at full height; those that are not told are 0. */
    static long[] factors(long... numbers) {
        long[] factors = new long[16];
        for (int k = 0; k < numbers.length; k++) {
            factors[k] = numbers[k] * 256;
        }
        return factors;
    }

    static int line(int[] low, int[] high, int x) {
        int part = Math.abs(high[1] - low[1]) * (x - low[0]) / (high[0] - low[0]);
        return high[1] > low[1] ? low[1] + part : low[1] - part;
    }

    /** The Y of a POST that is told by V, where so much is FORETOLD. */
    static int post(int range, int foretold, int v) {
        int up = range - foretold;
        int down = foretold;
        int room = 2 * Math.min(up, down);
        if (v == 0) {
            return foretold;
        }
        if (v >= room) {
            return up > down ? foretold + v - down : foretold + up - (v + 1);
        }
        return v % 2 == 1 ? foretold - (v + 1) / 2 : foretold + v / 2;
    }

    /** The places in TABLE of a CURVE drawn through these points, which come by X. */
    static int[] places(int multiplier, int[]... drawn) {
        int[] places = new int[16];
        for (int i = 0; i + 1 < drawn.length; i++) {
            for (int x = drawn[i][0]; x < drawn[i + 1][0]; x++) {
                places[x] = Math.min(255, multiplier * line(drawn[i], drawn[i + 1], x));
            }
        }
        return places;
    }

    static int[] point(int x, int y) {
        return new int[] {x, y};
    }

    /** LENGTHS of a whole tree with so many ENTRIES, all used. */
    static int[] lengths(int entries) {
        int[] lengths = new int[entries];
        int depth = 31 - Integer.numberOfLeadingZeros(entries);
        for (int e = 0; e < entries; e++) {
            lengths[e] = entries == 1 ? 1 : depth + (e < 2 * (1 << depth) - entries ? 0 : 1);
        }
        return lengths;
    }

    /** The words that the document gives to ENTRIES of these LENGTHS, as texts; null to one that is not used. */
    static String[] words(int... lengths) {
        String[] words = new String[lengths.length];
        for (int e = 0; e < lengths.length; e++) {
            for (int w = 0; lengths[e] > 0 && words[e] == null && w < 1 << lengths[e]; w++) {
                String word = Integer.toBinaryString(1 << lengths[e] | w).substring(1);
                boolean may = true;
                for (int g = 0; g < e && may; g++) {
                    may = words[g] == null || !word.startsWith(words[g]) && !words[g].startsWith(word);
                }
                words[e] = may ? word : null;
            }
        }
        return words;
    }

    static String zeros(int count) {
        return "0".repeat(count);
    }
}
