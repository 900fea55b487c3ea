import java.util.ArrayList;
import java.util.List;

/** Tests that name the document's sentences one by one. */
abstract class Sentences {
    private final Doc doc;

    Sentences(Doc doc) {
        this.doc = doc;
    }

    abstract void hold();

    final void sentence(String words) {
        doc.name(words);
    }

    final void due(String what, long got, long want) {
        doc.due(what, got, want);
    }

    final void due(String what, boolean got, boolean want) {
        doc.due(what, got ? 1 : 0, want ? 1 : 0);
    }

    /**
     * The TAPE has just these bytes: with the bits turned in which they differ from a right PAGE's, it is that PAGE.
     * That one is twenty bytes longer: of two PAGES of the same length, both right, the difference is right, too,
     * so another PAGE than the one due would not show. The TAPE is used up.
     */
    final void dueBytes(String what, Reader x, List<Integer> bytes) {
        due(what + ": how many bytes", x.taped(), bytes.size());
        List<Integer> all = new ArrayList<>(bytes);
        do {
            x.feed(0, 0, 0, 0, 0);
            all.addAll(SongWriter.many(20, 0));
        } while (all.size() < 28);
        List<Integer> page = Songs.pageOfSize(all.size());
        for (int i = 0; i < all.size(); i++) {
            x.harm(i, all.get(i) ^ page.get(i));
        }
        x.read();
        due(what + ": its bytes", x.look(0), 1);
    }

    /** Both halves of a SOUND that Songs.played() has read: each of its 32 SAMPLES. */
    final void dueFactors(String what, Reader x, int channel, long[] factors) {
        long[] halves = Songs.halves(factors);
        for (int n = 0; n < 32; n++) {
            due(what + ", SAMPLE " + n + " of CHANNEL " + channel, x.sample(channel, n), Songs.held(halves[n]));
        }
    }

    /** The same, of numbers under a CURVE at its full height. */
    final void dueNumbers(String what, Reader x, int channel, long... numbers) {
        dueFactors(what, x, channel, Songs.factors(numbers));
    }

    final void dueLooks(String what, Reader x, int... looks) {
        for (int i = 0; i < looks.length; i++) {
            due(what + ": look(" + i + ")", x.look(i), looks[i]);
        }
    }
}
