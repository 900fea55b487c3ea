import java.util.ArrayList;
import java.util.Arrays;
import java.util.List;

/** The sentences of "3. SOUND" about SUMS, OUT and the end that is cut. */
final class SumSentences extends Sentences {
    SumSentences(Doc doc) {
        super(doc);
    }

    @Override
    void hold() {
        factors();
        sumsOfCosines();
        cosines();
        window();
        halves();
        firstSound();
        furtherSounds();
        held();
        lastAndGranule();
        roundedDown();
    }

    /** BOOK 0 has these two numbers (times 255, and least) as its VALUES; a 0 tells the first, a 1 the second. */
    private static SongWriter setup(int least, int step, int first, int second) {
        return new SongWriter().start(1, 2).lengths(1, 1, 1).values(least, step, false, 8, first, second)
            .book(1, 1).posts(1, 1).classes(3, 1, 0);
    }

    /** A SOUND at this height whose numbers are the second one, but for those places, which have the first. */
    private static SongWriter sound(int height, int... places) {
        SongWriter sound = new SongWriter().put(1, 1).put(height, 8).put(height, 8);
        for (int k = 0; k < 16; k++) {
            boolean first = false;
            for (int place : places) {
                first = first || place == k;
            }
            sound.word(k % 8 == 0 ? "0" : "").word(first ? "0" : "1");
        }
        return sound;
    }

    private static long[] factors(int height, long other, long one, int... places) {
        long[] numbers = new long[16];
        Arrays.fill(numbers, other);
        for (int place : places) {
            numbers[place] = one;
        }
        int[] flat = new int[16];
        Arrays.fill(flat, height);
        return Songs.factors(numbers, flat);
    }

    private void factors() {
        sentence("SUMS: of each CHANNEL F(k) is its number k times its curve's TABLE value (0 of a SILENT one), >> 8.");
        for (int height = 0; height < 256; height++) {
            // Low ones, too, with a sign: what is left of them is rounded down.
            Reader low = Songs.played(setup(-128, 1, 0, 127), sound(height, 1, 4, 7, 10, 13));
            dueFactors("-128 and -1 at " + height, low, 0, factors(height, -1, -128, 1, 4, 7, 10, 13));
            Reader high = Songs.played(setup(3, 100, 250, 1), sound(height, 5));
            dueFactors("25003 and 103 at " + height, high, 0, factors(height, 103, 25003, 5));
        }
        // LEANING makes a SILENT CHANNEL's numbers, but it has no TABLE value.
        SongWriter leaning = new SongWriter().start(2, 1).lengths(1, 1).values(100, 100, false, 4, 9).posts(1, 0)
            .classes(3, 0, 0).put(1, 1);
        long[] thousand = new long[16];
        Arrays.fill(thousand, 1000);
        Reader first = Songs.played(leaning, new SongWriter().put(0, 1).put(1, 1).put(255, 8).put(255, 8)
            .word(Songs.zeros(18)).word("1"));
        dueNumbers("the first is SILENT", first, 0);
        // Of the second nothing is told: M 1000, A 0 come to 1000 and 1000.
        dueNumbers("the first is SILENT", first, 1, thousand);
        Reader second = Songs.played(leaning, new SongWriter().put(1, 1).put(255, 8).put(255, 8).put(0, 1)
            .word(Songs.zeros(18)).word("1"));
        dueNumbers("the second is SILENT", second, 0, thousand);
        dueNumbers("the second is SILENT", second, 1);
    }

    private void sumsOfCosines() {
        sentence("Y(n), n 0 to 31: (sum of all k 0 to 15 of F(k) C((2 n + 17)(2 k + 1)), and 2048) >> 12, all exact;");
        // Each k alone, pairs of them, and all: as loud as SAMPLES can be, and as low.
        for (int[] kind : new int[][] {{255, 250}, {255, 60}, {255, 3}, {230, 255}, {200, 255}, {150, 255}}) {
            for (int k = 0; k < 16; k++) {
                int number = 255 * kind[1];
                Reader one = Songs.played(setup(0, 255, kind[1], 0), sound(kind[0], k));
                dueFactors(number + " at k " + k, one, 0, factors(kind[0], 0, number, k));
                Reader two = Songs.played(setup(-90, 255, kind[1], 0), sound(kind[0], k, (k + 5) % 16));
                dueFactors(number + " at two ks, " + k, two, 0, factors(kind[0], -90, number - 90, k, (k + 5) % 16));
            }
            int number = 255 * kind[1] + 127;
            dueFactors("all " + number, Songs.played(setup(127, 255, kind[1], 0), sound(kind[0], 0, 1, 2, 3, 4, 5, 6, 7, 8, 9, 10,
                11, 12, 13, 14, 15)), 0, factors(kind[0], number, number));
        }
        // 2047 or 2049 in place of 2048 would be heard here: -1715 and 906.
        dueOne(2552, 255, 0, -1714);
        dueOne(25238, 250, 8, 905);
        // The greatest numbers that there are, by ADDING: their sums go far beyond 32 bits.
        SongWriter most = new SongWriter().start(1, 2).lengths(4, 1).values(127, 255, true, 8, 255).book(1, 1).posts(1, 1).classes(3, 1, 0);
        for (int height = 0; height < 256; height += 5) {
            long[] numbers = new long[16];
            for (int k = 0; k < 16; k++) {
                numbers[k] = 65152L * (k % 4 + 1);
            }
            int[] flat = new int[16];
            Arrays.fill(flat, height);
            Reader x = Songs.played(most, new SongWriter().put(1, 1).put(height, 8).put(height, 8).word(Songs.zeros(6)));
            dueFactors("the greatest at " + height, x, 0, Songs.factors(numbers, flat));
        }
    }

    /** SAMPLE 15 of one number at one k, the others being 0. */
    private void dueOne(int number, int height, int k, int sample) {
        int steps = (number + 128) / 255;
        SongWriter setup = new SongWriter().start(1, 2).lengths(1, 1).values(number - 255 * steps, 255, false, 8, steps)
            .book(1, 1, 1).posts(1, 0).classes(0, 1, 0, 8);
        SongWriter sound = new SongWriter().put(1, 1).put(height, 8).put(height, 8).word("1".repeat(k)).word("00").word("1".repeat(16));
        Reader x = Songs.played(setup, sound);
        due(number + " at k " + k + ", height " + height, x.sample(0, 15), sample);
        dueFactors(number + " at k " + k + ", height " + height, x, 0, factors(height, 0, number, k));
    }

    private void cosines() {
        sentence("C(j) is the whole number nearest to 4096 cos(j pi / 64): for j 0 to 32: 4096 4091 4076 4052 4017 3973 3920 3857 "
            + "3784 3703 3612 3513 3406 3290 3166 3035 2896 2751 2598 2440 2276 2106 1931 1751 1567 1380 1189 995 799 601 401 201 0, "
            + "and on as a cosine does.");
        int[] told = {4096, 4091, 4076, 4052, 4017, 3973, 3920, 3857, 3784, 3703, 3612, 3513, 3406, 3290, 3166, 3035, 2896, 2751, 2598,
            2440, 2276, 2106, 1931, 1751, 1567, 1380, 1189, 995, 799, 601, 401, 201, 0};
        for (int j = 0; j <= 32; j++) {
            due("C(" + j + ")", Math.round(4096 * Math.cos(j * Math.PI / 64)), told[j]);
        }
        // Each k alone at each n: j is (2 n + 17)(2 k + 1), up to 2449; folded back to 0 to 32 by hand.
        int[] window = {15, 138, 379, 726, 1160, 1652, 2167, 2665, 3110, 3476, 3748, 3928, 4031, 4078, 4094, 4096};
        for (int k = 0; k < 16; k++) {
            Reader x = Songs.played(setup(0, 255, 125, 0), sound(255, k));
            for (int n = 0; n < 32; n++) {
                int j = (2 * n + 17) * (2 * k + 1) % 128;
                int folded = j > 64 ? 128 - j : j;
                long cosine = folded > 32 ? -told[64 - folded] : told[folded];
                long y = (255L * 125 * 256 * cosine + 2048) >> 12;
                long half = y * window[n < 16 ? n : 31 - n] >> 12;
                due("k " + k + ", n " + n, x.sample(0, n), half >> 8);
            }
        }
    }

    private void window() {
        sentence("WINDOW W(n), n 0 to 15: 15 138 379 726 1160 1652 2167 2665 3110 3476 3748 3928 4031 4078 4094 4096; "
            + "n 16 to 31: W(31 - n).");
        // As loud as each n will bear: n 0 and n 31 by the greatest number, n 15 and n 16 by a lesser one.
        for (int steps : new int[] {20, 60, 120, 180, 255}) {
            for (int k = 0; k < 16; k++) {
                Reader x = Songs.played(setup(127, 255, steps, 0), sound(255, k));
                dueFactors(steps + " at k " + k, x, 0, factors(255, 127, 255 * steps + 127, k));
            }
        }
    }

    private void halves() {
        sentence("A PACKET's halves: (Y(n) W(n)) >> 12.");
        Reader x = Songs.played(setup(-20, 255, 4, 0), sound(255, 0));
        dueFactors("1000 at k 0", x, 0, factors(255, -20, 1000, 0));
        SongWriter alone = new SongWriter().start(1, 2).lengths(1, 1).values(-20, 255, false, 8, 4).book(1, 1).posts(1, 1).classes(0, 1, 0);
        Reader one = Songs.played(alone, new SongWriter().put(1, 1).put(255, 8).put(255, 8).word("00").word("1"));
        // By hand: F(0) is 256000; C is 2751 at n 0, - 2751 at n 15, - 3035 at n 16 and n 31; Y 171938, - 171937 and - 189687.
        due("n 0", one.sample(0, 0), 171938 * 15 / 4096 / 256);
        due("n 15", one.sample(0, 15), -672);
        due("n 16", one.sample(0, 16), -741);
        due("n 31", one.sample(0, 31), -3);
    }

    private void firstSound() {
        sentence("OUT: of the first SOUND that counts nothing;");
        List<Integer> loud = sound(255, 0, 1, 2).bytes();
        Reader one = Songs.laid(setup(0, 255, 60, 0).bytes(), loud);
        due("one SOUND", one.read(), 0);
        dueLooks("one SOUND", one, 2, 0, 2, 1, 0, 1);
        due("one SOUND: sample", one.sample(0, 0), 0);
        due("one SOUND: sum", one.sum(0), 0);
        // The first that counts: those passed over ahead of it are none.
        Reader passed = Songs.laid(setup(0, 255, 60, 0).bytes(), Songs.none(), SongWriter.row(1), loud);
        due("one SOUND behind others", passed.read(), 0);
        dueLooks("one SOUND behind others", passed, 4, 0, 4, 1, 2, 1);
        due("no SOUND", Songs.answer(setup(0, 255, 60, 0).bytes()), 0);
        due("all passed over", Songs.answer(setup(0, 255, 60, 0).bytes(), Songs.none(), Songs.none()), 0);
        Reader two = Songs.laid(setup(0, 255, 60, 0).bytes(), loud, Songs.silence());
        due("two SOUNDS", two.read(), 16);
        due("two SOUNDS: heard", two.sum(0) != 0, true);
    }

    private void furtherSounds() {
        sentence("of each further one 16 SAMPLES of each CHANNEL: the second half of the one ahead (that counted) and its first half, >> 8,");
        // Seven SOUNDS of two CHANNELS, each another, with one passed over between each two.
        SongWriter setup = new SongWriter().start(2, 2).lengths(1, 1, 1).values(-33, 77, false, 8, 111, 1).book(1, 1)
            .posts(1, 1).classes(3, 1, 0).put(0, 1);
        List<List<Integer>> packets = new ArrayList<>();
        packets.add(setup.bytes());
        long[][][] halves = new long[7][2][];
        for (int s = 0; s < 7; s++) {
            SongWriter sound = new SongWriter();
            for (int c = 0; c < 2; c++) {
                sound.put(1, 1).put(255 - 9 * s, 8).put(255 - 9 * s, 8);
            }
            for (int c = 0; c < 2; c++) {
                int[] places = {s, (s * 5 + 3 * c + 1) % 16};
                for (int k = 0; k < 16; k++) {
                    boolean first = k == places[0] || k == places[1];
                    sound.word(k % 8 == 0 ? "0" : "").word(first ? "0" : "1");
                }
                halves[s][c] = Songs.halves(factors(255 - 9 * s, 44, 111 * 77 - 33, places));
            }
            packets.add(sound.bytes());
            packets.add(Songs.none());
        }
        Reader x = Songs.laidTogether(packets);
        due("seven SOUNDS", x.read(), 96);
        dueLooks("seven SOUNDS", x, 1, 0, 15, 7, 7, 2);
        for (int i = 0; i < 96; i++) {
            for (int c = 0; c < 2; c++) {
                long sum = halves[i / 16][c][16 + i % 16] + halves[i / 16 + 1][c][i % 16];
                due("SAMPLE " + i + " of CHANNEL " + c, x.sample(c, i), Songs.held(sum));
            }
        }
    }

    private void held() {
        sentence("held within - 32768 and 32767.");
        // One number at one k: that n's value goes up by less than 1 with each step of the number, so each is met.
        for (int k = 0; k < 16; k++) {
            for (int n : new int[] {14, 15, 16, 17}) {
                boolean[] met = new boolean[4];
                for (int number = 33000; number <= 65152; number++) {
                    long value = Songs.halves(factors(255, 0, number, k))[n] >> 8;
                    int which = value < 0 ? (int) (-32767 - value) : (int) (value - 32766);
                    if (which < 0 || which > 3 || met[which]) {
                        continue;
                    }
                    met[which] = true;
                    int steps = Math.min(255, (number + 128) / 255);
                    SongWriter setup = new SongWriter().start(1, 2).lengths(1, 1).values(number - 255 * steps, 255, false, 8, steps)
                        .book(1, 1, 1).posts(1, 0).classes(0, 1, 0, 8);
                    SongWriter sound = new SongWriter().put(1, 1).put(255, 8).put(255, 8).word("1".repeat(k)).word("00").word("1".repeat(16));
                    Reader x = Songs.played(setup, sound);
                    due("read", x.look(3), 3);
                    due("k " + k + ", n " + n + ", " + value, x.sample(0, n), Math.max(-32768, Math.min(32767, value)));
                }
            }
        }
        // As loud as can be, in both CHANNELS.
        SongWriter most = new SongWriter().start(2, 2).lengths(4, 1).values(127, 255, true, 8, 255).book(1, 1).posts(1, 1)
            .classes(3, 1, 0).put(0, 1);
        SongWriter loud = new SongWriter().put(1, 1).put(255, 8).put(255, 8).put(1, 1).put(255, 8).put(255, 8).word(Songs.zeros(12));
        Reader x = Songs.played(most, loud);
        long[] numbers = new long[16];
        for (int k = 0; k < 16; k++) {
            numbers[k] = 65152L * (k % 4 + 1);
        }
        dueNumbers("as loud as can be", x, 0, numbers);
        dueNumbers("as loud as can be", x, 1, numbers);
        // Held is the sum of both halves, not each half: two loud ones of other signs come to what they come to.
        bothHalvesHeldTogether();
    }

    private void bothHalvesHeldTogether() {
        boolean met = false;
        for (int k = 0; k < 16; k++) {
            Reader x = Songs.laid(setup(0, 255, 255, 0).bytes(), sound(255, 0).bytes(), sound(255, k).bytes());
            due("read", x.read(), 16);
            long[] ahead = Songs.halves(factors(255, 0, 65025, 0));
            long[] behind = Songs.halves(factors(255, 0, 65025, k));
            for (int n = 0; n < 16; n++) {
                due("both halves, k " + k + ", n " + n, x.sample(0, n), Songs.held(ahead[16 + n] + behind[n]));
                long each = Songs.held(ahead[16 + n]) + Songs.held(behind[n]);
                met = met || Math.abs(each - Songs.held(ahead[16 + n] + behind[n])) > 1000;
            }
        }
        due("there are such", met, true);
    }

    private static int cutAnswer(int flags, long granule) {
        Reader x = Songs.laid(Songs.plainSetup(2), Songs.silence(), Songs.silence());
        Songs.layPage(x, flags, granule, 3, Songs.silence());
        return x.read();
    }

    private void lastAndGranule() {
        sentence("If the last PAGE that counts has LAST, and its GRANULE (as a number with sign) is from 0 on and below the SAMPLES "
            + "of each CHANNEL, there are only so many.");
        for (int granule = -3; granule <= 40; granule++) {
            due("LAST, GRANULE " + granule, cutAnswer(4, granule), granule >= 0 && granule < 32 ? granule : 32);
            due("not LAST, GRANULE " + granule, cutAnswer(2, granule), 32);
        }
        for (int bit = 6; bit < 64; bit++) {
            due("GRANULE with bit " + bit, cutAnswer(4, 1L << bit | 3), 32);
        }
        for (long granule : new long[] {Long.MIN_VALUE, Long.MAX_VALUE, -1, Integer.MIN_VALUE, Integer.MAX_VALUE, 0xffffffffL}) {
            due("GRANULE " + granule, cutAnswer(4, granule), 32);
        }
        // Only the last PAGE that counts tells: not one ahead of it, not one harmed or of another SERIAL behind it.
        for (int at = 0; at < 4; at++) {
            Reader x = new Reader();
            for (int i = 0; i < 4; i++) {
                Songs.layPage(x, i == at ? 4 : 0, 7, i, i == 0 ? Songs.plainSetup(1) : Songs.silence());
            }
            due("LAST at PAGE " + at, x.read(), at == 3 ? 7 : 32);
        }
        for (int kind = 0; kind < 4; kind++) {
            Reader x = Songs.laid(Songs.plainSetup(1), Songs.silence(), Songs.silence());
            Songs.layPage(x, 4, 9, 3, Songs.silence());
            int from = x.taped();
            // Harmed, of another SERIAL, of no LACES without LAST, of no LACES with LAST.
            x.page(from, kind == 3 ? 4 : 0, 11, kind == 1 ? 2 : 1, 4, true);
            if (kind == 0) {
                x.harm(from + 7, 4);
            }
            due("a PAGE behind the LAST, " + kind, x.read(), kind == 2 ? 32 : kind == 3 ? 11 : 9);
        }
        whatIsCut();
    }

    private void whatIsCut() {
        // SAMPLES from there on are none such; the SOUNDS counted all the same. With no SAMPLES there is nothing to cut.
        SongWriter setup = setup(0, 255, 60, 0);
        List<Integer> loud = sound(255, 0, 1, 2).bytes();
        Reader whole = Songs.laid(setup.bytes(), loud, loud, loud);
        due("uncut", whole.read(), 32);
        for (int cut = 0; cut <= 33; cut++) {
            Reader x = Songs.laid(setup.bytes(), loud, loud);
            Songs.layPage(x, 4, cut, 3, loud);
            due("cut at " + cut, x.read(), Math.min(32, cut));
            due("cut at " + cut + ": SOUNDS", x.look(3), 3);
            int sum = 0;
            for (int i = 0; i < 34; i++) {
                int due = i < cut && i < 32 ? Songs.held(Songs.halves(factors(255, 0, 15300, 0, 1, 2))[16 + i % 16]
                    + Songs.halves(factors(255, 0, 15300, 0, 1, 2))[i % 16]) : 0;
                due("cut at " + cut + ", SAMPLE " + i, x.sample(0, i), due);
                sum += due * (1 + i);
            }
            due("cut at " + cut + ": sum", x.sum(0), sum);
        }
        for (long granule : new long[] {0, 1, -1, 5}) {
            Reader none = new Reader();
            Songs.layPage(none, 0, 0, 0, setup.bytes());
            Songs.layPage(none, 4, granule, 1, loud);
            due("no SAMPLES, GRANULE " + granule, none.read(), 0);
        }
        Reader fault = new Reader();
        Songs.layPage(fault, 4, 0, 0, SongWriter.row(86));
        due("a FAULT is not cut", fault.read(), -2);
    }

    private void roundedDown() {
        sentence("(>> n: divided by 2 to the n, rounded down.)");
        // Just below 0: what would be 0, if it were rounded to it, is - 1.
        boolean below = false;
        for (int height : new int[] {0, 100, 150, 180, 200}) {
            for (int k = 0; k < 16; k++) {
                Reader x = Songs.played(setup(0, 1, 1, 0), sound(height, k));
                long[] factors = factors(height, 0, 1, k);
                dueFactors("1 at height " + height + ", k " + k, x, 0, factors);
                Reader less = Songs.played(setup(-1, 1, 0, 1), sound(height, k));
                long[] lower = factors(height, 0, -1, k);
                dueFactors("-1 at height " + height + ", k " + k, less, 0, lower);
                for (int n = 0; n < 32; n++) {
                    below = below || Songs.held(Songs.halves(lower)[n]) == -1;
                }
            }
        }
        due("there are some just below 0", below, true);
    }
}
