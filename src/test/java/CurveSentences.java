import java.util.ArrayList;
import java.util.Arrays;
import java.util.List;

/** The sentences of "3. SOUND" about the CURVES. */
final class CurveSentences extends Sentences {
    /** One number for each of the sixteen, low enough that few SAMPLES are held, and one that shows low places. */
    private static final int[] NUMBERS = {1000, 20000};

    CurveSentences(Doc doc) {
        super(doc);
    }

    @Override
    void hold() {
        eachFurtherPacket();
        ranges();
        silentOrTold();
        lowAndHigh();
        foretold();
        upDownRoom();
        notDrawn();
        drawn();
        fromRoomOn();
        belowRoom();
        heldWithin();
        heights();
        table();
    }

    /** Sixteen numbers alike, and POSTS by a BOOK of 64 ENTRIES of six bits each. */
    private static SongWriter setup(int number, int multiplier, int... xs) {
        int steps = Math.floorDiv(number + 128, 255);
        return new SongWriter().start(1, 2).lengths(1, 1).values(number - 255 * steps, 255, false, 8, steps)
            .book(1, Songs.lengths(64)).posts(multiplier, 1, xs).classes(3, 0, 0);
    }

    private static SongWriter sound(int multiplier, int first, int last, int... vs) {
        int bits = Songs.RANGE_BITS[multiplier];
        SongWriter sound = new SongWriter().put(1, 1).put(first, bits).put(last, bits);
        for (int v : vs) {
            sound.word(Integer.toBinaryString(64 | v).substring(1));
        }
        return sound.word(Songs.zeros(18));
    }

    private void duePlaces(String what, int multiplier, int[] xs, SongWriter sound, int... places) {
        for (int number : NUMBERS) {
            long[] numbers = new long[16];
            Arrays.fill(numbers, number);
            dueFactors(what, Songs.played(setup(number, multiplier, xs), sound), 0, Songs.factors(numbers, places));
        }
    }

    private static int[] xs(int... xs) {
        return xs;
    }

    private static int[] flat(int place) {
        int[] places = new int[16];
        Arrays.fill(places, place);
        return places;
    }

    private void eachFurtherPacket() {
        sentence("SOUND: each further PACKET.");
        for (int further = 0; further <= 5; further++) {
            List<List<Integer>> packets = new ArrayList<>();
            packets.add(Songs.plainSetup(1));
            for (int i = 0; i < further; i++) {
                // One that looks like a SETUP is a SOUND all the same; so is an empty one, which is passed over.
                packets.add(i == 1 ? Songs.plainSetup(1) : i == 3 ? Songs.none() : Songs.silence());
            }
            Reader x = Songs.laidTogether(packets);
            int passed = further > 3 ? 1 : 0;
            due(further + " further", x.read(), Math.max(0, 16 * (further - passed - 1)));
            dueLooks(further + " further", x, 1, 0, 1 + further, further - passed, passed);
        }
    }

    private void ranges() {
        sentence("R is 256, 128, 86, 64 for MULTIPLIER 1 to 4, in 8, 7, 7, 6 bits.");
        for (int m = 1; m <= 4; m++) {
            int r = Songs.RANGES[m];
            // The highest, the lowest and others, first and last; the POST behind shows where their bits end.
            int[][] pairs = {{r - 1, r - 1}, {0, r - 1}, {r - 1, 0}, {r - 2, r - 3}, {r / 2, r - 1}, {r * 3 / 4, r * 7 / 8}};
            for (int[] pair : pairs) {
                int foretold = Songs.line(Songs.point(0, pair[0]), Songs.point(16, pair[1]), 8);
                int y = Songs.post(r, foretold, 5);
                int[] places = Songs.places(m, Songs.point(0, pair[0]), Songs.point(8, y), Songs.point(16, pair[1]));
                duePlaces("MULTIPLIER " + m + ", " + pair[0] + " to " + pair[1], m, xs(8), sound(m, pair[0], pair[1], 5), places);
            }
            // 1, both Ys: just so many bits; one byte less is too few.
            int bits = 1 + 2 * Songs.RANGE_BITS[m];
            for (int bytes = 1; bytes <= 4; bytes++) {
                Reader x = Songs.laid(setup(1000, m).bytes(), SongWriter.many(bytes, 255));
                x.read();
                due("MULTIPLIER " + m + " in " + bytes + " bytes", x.look(3), 8 * bytes >= bits ? 1 : 0);
            }
        }
    }

    private void silentOrTold() {
        sentence("Of each CHANNEL: a bit: 0 SILENT; else Y of X 0, Y of X 16 in those bits "
            + "(of MULTIPLIER 3 numbers above 85 count as 85), and of each POST an ENTRY of the POSTS' BOOK.");
        for (int y : new int[] {80, 84, 85, 86, 87, 100, 126, 127}) {
            int held = Math.min(85, y);
            duePlaces("Y of X 0 is " + y, 3, xs(), sound(3, y, 70), Songs.places(3, Songs.point(0, held), Songs.point(16, 70)));
            duePlaces("Y of X 16 is " + y, 3, xs(), sound(3, 70, y), Songs.places(3, Songs.point(0, 70), Songs.point(16, held)));
            int post = Songs.post(86, held, 3);
            int[] bent = Songs.places(3, Songs.point(0, held), Songs.point(8, post), Songs.point(16, held));
            duePlaces("a POST between " + y, 3, xs(8), sound(3, y, y, 3), bent);
        }
        // A 0, and nothing more of that CHANNEL: the next bit is the next CHANNEL's.
        SongWriter two = new SongWriter().start(2, 1).lengths(1, 1).values(100, 100, false, 4, 9).posts(1, 0).classes(3, 0, 0).put(0, 1);
        for (int which = 0; which < 4; which++) {
            SongWriter sound = new SongWriter();
            long[][] due = new long[2][16];
            for (int c = 0; c < 2; c++) {
                if ((which >> c & 1) == 1) {
                    sound.put(1, 1).put(255, 8).put(255, 8);
                    Arrays.fill(due[c], 1000);
                } else {
                    sound.put(0, 1);
                }
            }
            Reader x = Songs.played(two, sound.word(Songs.zeros(36)));
            dueNumbers("heard " + which, x, 0, due[0]);
            dueNumbers("heard " + which, x, 1, due[1]);
        }
        // POSTS of each CHANNEL come behind its own Ys.
        SongWriter posts = new SongWriter().start(2, 2).lengths(1, 1).values(100, 100, false, 4, 9).book(1, 2, 2, 2, 2)
            .posts(1, 1, 8, 4).classes(3, 0, 0).put(0, 1);
        SongWriter both = new SongWriter().put(1, 1).put(220, 8).put(230, 8).word("1000")
            .put(1, 1).put(240, 8).put(225, 8).word("0110").word(Songs.zeros(36));
        Reader x = Songs.played(posts, both);
        long[] thousand = new long[16];
        Arrays.fill(thousand, 1000);
        dueFactors("POSTS of the first", x, 0, Songs.factors(thousand,
            Songs.places(1, Songs.point(0, 220), Songs.point(8, 226), Songs.point(16, 230))));
        // FORETOLD at 8 is 233, V 1 makes it 232; at 4 it is 236, V 2 makes it 237.
        dueFactors("POSTS of the second", x, 1, Songs.factors(thousand,
            Songs.places(1, Songs.point(0, 240), Songs.point(4, 237), Songs.point(8, 232), Songs.point(16, 225))));
    }

    private void lowAndHigh() {
        sentence("CURVE: points in the order X 0, X 16, POSTS. For each POST: LOW and HIGH are those ahead of it in that order "
            + "with the greatest X below, the least X above its own;");
        // 12 leans on 0 and 16; 4 on 0 and 12; 8 on 4 and 12; 2 on 0 and 4; 14 on 12 and 16.
        int[] y = new int[17];
        y[0] = 200;
        y[16] = 240;
        y[12] = 230 + 10;
        y[4] = 200 + (y[12] - 200) / 3 + 9;
        y[8] = y[4] + (y[12] - y[4]) * 4 / 8 - 8;
        y[2] = y[0] + (y[4] - y[0]) / 2 + 7;
        y[14] = 240 - 5;
        duePlaces("POSTS in any order", 1, xs(12, 4, 8, 2, 14), sound(1, 200, 240, 20, 18, 15, 14, 9),
            Songs.places(1, Songs.point(0, 200), Songs.point(2, y[2]), Songs.point(4, y[4]), Songs.point(8, y[8]),
                Songs.point(12, y[12]), Songs.point(14, y[14]), Songs.point(16, 240)));
        // 8, ahead of 4 and 12, leans on 0 and 16, though 4 and 12 are nearer: they come behind it.
        int eight = 210 + 10;
        int four = 210 - 5;
        int twelve = 220 + 4;
        duePlaces("those behind it do not count", 1, xs(8, 4, 12), sound(1, 200, 220, 20, 9, 8),
            Songs.places(1, Songs.point(0, 200), Songs.point(4, four), Songs.point(8, eight), Songs.point(12, twelve),
                Songs.point(16, 220)));
        // One that is not drawn is LOW and HIGH, too, and is drawn then.
        duePlaces("LOW that is not drawn", 1, xs(8, 12), sound(1, 200, 211, 0, 10),
            Songs.places(1, Songs.point(0, 200), Songs.point(8, 205), Songs.point(12, 208 + 5), Songs.point(16, 211)));
        duePlaces("HIGH that is not drawn", 1, xs(8, 4), sound(1, 200, 211, 0, 10),
            Songs.places(1, Songs.point(0, 200), Songs.point(4, 202 + 5), Songs.point(8, 205), Songs.point(16, 211)));
        // Next neighbours, at the very ends.
        duePlaces("1, 15, 2 and 14", 1, xs(1, 15, 2, 14), sound(1, 220, 220, 10, 9, 10, 9),
            Songs.places(1, Songs.point(0, 220), Songs.point(1, 225), Songs.point(2, 225 + 5), Songs.point(14, 218 - 5),
                Songs.point(15, 221 - 5), Songs.point(16, 220)));
    }

    private void foretold() {
        sentence("FORETOLD is the LINE's value between their Ys there: Y of LOW and (its difference to Y of HIGH, without sign, "
            + "times the distance from LOW, by the whole distance, rounded down), more if it rises, else less.");
        int[][] pairs = {{200, 200}, {200, 201}, {201, 200}, {200, 215}, {215, 200}, {200, 217}, {217, 200}, {190, 255}, {255, 190}, {0, 255}, {255, 0}};
        for (int[] pair : pairs) {
            for (int x = 1; x <= 15; x++) {
                int part = Math.abs(pair[1] - pair[0]) * x / 16;
                int foretold = pair[1] > pair[0] ? pair[0] + part : pair[0] - part;
                // V 1 draws it 1 below: FORETOLD itself shows.
                int y = Songs.post(256, foretold, 1);
                duePlaces("X " + x + " between " + pair[0] + " and " + pair[1], 1, xs(x), sound(1, pair[0], pair[1], 1),
                    Songs.places(1, Songs.point(0, pair[0]), Songs.point(x, y), Songs.point(16, pair[1])));
            }
        }
        // By hand: 200 to 215 at 3 is 202 (2.8); 215 to 200 at 3 is 213 (212.2).
        due("up", Songs.line(Songs.point(0, 200), Songs.point(16, 215), 3), 202);
        due("down", Songs.line(Songs.point(0, 215), Songs.point(16, 200), 3), 213);
        // From a LOW that is not X 0: the distance is from there.
        duePlaces("from X 5 to X 16", 1, xs(5, 9), sound(1, 220, 220, 20, 1),
            Songs.places(1, Songs.point(0, 220), Songs.point(5, 230), Songs.point(9, 230 - 10 * 4 / 11 - 1), Songs.point(16, 220)));
    }

    private void upDownRoom() {
        sentence("V its ENTRY; UP is R less FORETOLD, DOWN FORETOLD, ROOM twice the lesser.");
        // The lesser is UP, DOWN, or both: just below ROOM, and at it.
        for (int m = 1; m <= 4; m++) {
            int r = Songs.RANGES[m];
            for (int near = 1; near <= 31; near++) {
                duePost(m, r - near, 2 * near - 1, r - 2 * near);
                duePost(m, r - near, 2 * near, r - near + near - 2 * near - 1);
            }
        }
        duePost(4, 32, 62, 63);
        duePost(4, 32, 63, 0);
        duePost(4, 31, 61, 0);
        duePost(4, 31, 62, 62);
        duePost(4, 33, 61, 2);
        duePost(4, 33, 62, 1);
        duePost(4, 2, 3, 0);
        duePost(4, 2, 4, 4);
        duePost(4, 0, 63, 63);
    }

    /** One POST in the midst of a flat CURVE. */
    private void duePost(int m, int foretold, int v, int y) {
        duePlaces("MULTIPLIER " + m + ", FORETOLD " + foretold + ", V " + v, m, xs(8), sound(m, foretold, foretold, v),
            Songs.places(m, Songs.point(0, foretold), Songs.point(8, y), Songs.point(16, foretold)));
    }

    private void notDrawn() {
        sentence("V 0: Y is FORETOLD, and it is NOT DRAWN.");
        // Drawn, it would bend the line: 200 to 211 has 205 at 8.
        duePlaces("one", 1, xs(8), sound(1, 200, 211, 0), Songs.places(1, Songs.point(0, 200), Songs.point(16, 211)));
        duePlaces("fifteen", 1, xs(8, 4, 12, 2, 6, 10, 14, 1, 3, 5, 7, 9, 11, 13, 15), sound(1, 190, 255, new int[15]),
            Songs.places(1, Songs.point(0, 190), Songs.point(16, 255)));
        // Its Y is what is foretold: another leans on it.
        duePlaces("Y of it", 1, xs(8, 12), sound(1, 200, 211, 0, 1),
            Songs.places(1, Songs.point(0, 200), Songs.point(8, 205), Songs.point(12, 207), Songs.point(16, 211)));
        // A POST that was drawn in the SOUND or the CHANNEL before is not drawn for that.
        SongWriter setup = new SongWriter().start(2, 2).lengths(1, 1).values(100, 100, false, 4, 9).book(1, 2, 2, 2, 2)
            .posts(1, 1, 8, 4).classes(3, 0, 0).put(0, 1);
        SongWriter sound = new SongWriter().put(1, 1).put(200, 8).put(211, 8).word("1111")
            .put(1, 1).put(200, 8).put(211, 8).word("0000").word(Songs.zeros(36));
        long[] thousand = new long[16];
        Arrays.fill(thousand, 1000);
        dueFactors("drawn in the first CHANNEL", Songs.played(setup, sound), 1,
            Songs.factors(thousand, Songs.places(1, Songs.point(0, 200), Songs.point(16, 211))));
    }

    private void drawn() {
        sentence("Else LOW, HIGH and it are DRAWN (X 0, X 16 always), and Y is:");
        // 4, 8 and 12 told by 0; then 10 draws 8 and 12, not 4.
        duePlaces("two of three", 1, xs(8, 4, 12, 10), sound(1, 190, 255, 0, 0, 0, 9),
            Songs.places(1, Songs.point(0, 190), Songs.point(8, 222), Songs.point(10, 230 - 5), Songs.point(12, 238), Songs.point(16, 255)));
        // X 0 and X 16 with nothing between, and LOW and HIGH themselves.
        duePlaces("nothing between", 1, xs(), sound(1, 190, 255), Songs.places(1, Songs.point(0, 190), Songs.point(16, 255)));
        duePlaces("X 0 as LOW, a POST as HIGH", 1, xs(9, 3), sound(1, 190, 255, 0, 2),
            Songs.places(1, Songs.point(0, 190), Songs.point(3, 203), Songs.point(9, 226), Songs.point(16, 255)));
        duePlaces("a POST as LOW, X 16 as HIGH", 1, xs(9, 13), sound(1, 190, 255, 0, 2),
            Songs.places(1, Songs.point(0, 190), Songs.point(9, 226), Songs.point(13, 243), Songs.point(16, 255)));
    }

    private void fromRoomOn() {
        sentence("V from ROOM on: if UP is above DOWN: FORETOLD and V, less DOWN; else FORETOLD and UP, less V and 1;");
        for (int m = 1; m <= 4; m++) {
            int r = Songs.RANGES[m];
            for (int v = 2; v < 64; v++) {
                // FORETOLD R - 1: UP 1, ROOM 2; FORETOLD 0: ROOM 0.
                duePost(m, r - 1, v, r - 1 - v);
                duePost(m, 0, v, v);
                duePost(m, 1, v, v);
            }
            duePost(m, r - 1, 1, r - 2);
            duePost(m, 0, 1, 1);
        }
    }

    private void belowRoom() {
        sentence("V below ROOM: odd: FORETOLD less (V + 1) / 2; even: FORETOLD and V / 2.");
        for (int m = 1; m <= 3; m++) {
            int foretold = Songs.RANGES[m] * 5 / 8;
            for (int v = 1; v < 64 && v < 2 * (Songs.RANGES[m] - foretold); v++) {
                duePost(m, foretold, v, v % 2 == 1 ? foretold - (v + 1) / 2 : foretold + v / 2);
            }
        }
    }

    private void heldWithin() {
        // V is 63 at the most, and no Y that it tells lies outside: the bounds themselves are met.
        sentence("It is held within 0 and R - 1.");
        for (int m = 1; m <= 4; m++) {
            int r = Songs.RANGES[m];
            for (int foretold = 0; foretold < r; foretold++) {
                dueAllEntries(m, foretold);
            }
        }
        duePost(4, 32, 62, 63);
        duePost(4, 0, 63, 63);
        duePost(4, 63, 63, 0);
        duePost(4, 32, 63, 0);
    }

    /** Every V where so much is FORETOLD: seven songs of ten SOUNDS with silence between. */
    private void dueAllEntries(int m, int foretold) {
        int r = Songs.RANGES[m];
        int number = 3000;
        long[] numbers = new long[16];
        Arrays.fill(numbers, number);
        for (int from = 0; from < 64; from += 10) {
            List<List<Integer>> packets = new ArrayList<>();
            packets.add(setup(number, m, 8).bytes());
            packets.add(Songs.silence());
            int count = Math.min(10, 64 - from);
            for (int i = 0; i < count; i++) {
                packets.add(sound(m, foretold, foretold, from + i).bytes());
                packets.add(Songs.silence());
            }
            Reader x = Songs.laidTogether(packets);
            x.read();
            for (int i = 0; i < count; i++) {
                int y = Songs.post(r, foretold, from + i);
                due("within", y >= 0 && y < r, true);
                int[] places = Songs.places(m, Songs.point(0, foretold), Songs.point(8, y), Songs.point(16, foretold));
                long[] halves = Songs.halves(Songs.factors(numbers, places));
                for (int n = 1; n < 32; n += 2) {
                    due("MULTIPLIER " + m + ", FORETOLD " + foretold + ", V " + (from + i) + ", " + n, x.sample(0, 32 * i + n),
                        Songs.held(halves[n]));
                }
            }
        }
    }

    private void heights() {
        sentence("Behind all: of the DRAWN points by X, each two that follow on one another give the HEIGHTS at X from the lower "
            + "one to just ahead of the higher: the LINE's value from the lower one as above;");
        // By hand: from 0 to 3 up, from 3 to 4 down, from 4 to 16 down.
        duePlaces("by hand", 1, xs(3, 4), sound(1, 240, 240, 20, 20), 240, 243, 246, 250, 235, 235, 235, 236, 236, 237, 237, 237, 238, 238, 239, 239);
        duePlaces("up", 1, xs(), sound(1, 200, 240), 200, 202, 205, 207, 210, 212, 215, 217, 220, 222, 225, 227, 230, 232, 235, 237);
        duePlaces("down", 1, xs(), sound(1, 240, 200), 240, 238, 235, 233, 230, 228, 225, 223, 220, 218, 215, 213, 210, 208, 205, 203);
        for (int x = 1; x <= 15; x++) {
            // One point far below at each X: it stands there alone.
            int y = Songs.post(256, 250, 60);
            duePlaces("a point at " + x, 1, xs(x), sound(1, 250, 250, 60),
                Songs.places(1, Songs.point(0, 250), Songs.point(x, y), Songs.point(16, 250)));
        }
        List<int[]> all = new ArrayList<>();
        int[] some = new int[15];
        int[] vs = new int[15];
        all.add(Songs.point(0, 220));
        for (int x = 1; x <= 15; x++) {
            some[x - 1] = x;
            vs[x - 1] = 10 + x;
            int foretold = Songs.line(all.get(x - 1), Songs.point(16, 220), x);
            all.add(Songs.point(x, Songs.post(256, foretold, 10 + x)));
        }
        all.add(Songs.point(16, 220));
        duePlaces("a point at each X", 1, some, sound(1, 220, 220, vs), Songs.places(1, all.toArray(new int[0][])));
    }

    private void table() {
        sentence("HEIGHT times MULTIPLIER, 255 at most, is the place in TABLE: T(255) is 65536, "
            + "T(i) (15391 T(i + 1) + 8192) >> 14. (X 0 to 15.)");
        // Counted outside of Java.
        due("T(254)", Songs.table(254), 61564);
        due("T(200)", Songs.table(200), 2103);
        due("T(113)", Songs.table(113), 8);
        due("T(0)", Songs.table(0), 8);
        for (int m = 1; m <= 4; m++) {
            for (int y = 0; y < Songs.RANGES[m]; y++) {
                duePlaces("HEIGHT " + y + " by MULTIPLIER " + m, m, xs(), sound(m, y, y), flat(y * m));
            }
        }
        // The greatest HEIGHTS come to 255, 254, 255 and 252 by themselves.
        duePlaces("255 at most", 3, xs(), sound(3, 127, 127), flat(255));
        // X 0 and X 15 have their own places.
        duePlaces("X 0 alone is high", 1, xs(1), sound(1, 250, 200, 60), Songs.places(1, Songs.point(0, 250),
            Songs.point(1, Songs.post(256, 247, 60)), Songs.point(16, 200)));
        duePlaces("X 15 alone is high", 1, xs(15), sound(1, 200, 200, 60), Songs.places(1, Songs.point(0, 200),
            Songs.point(15, 230), Songs.point(16, 200)));
    }
}
