/** A SongReader that counts its calls: the document promises nothing behind an object's 512th. */
final class Reader {
    private static final int CALLS_MOST = 512;

    private final SongReader reader = new SongReader();
    private int calls = 0;

    int left() {
        return CALLS_MOST - calls;
    }

    private SongReader called() {
        calls++;
        if (calls > CALLS_MOST) {
            throw new IllegalStateException("a test makes more calls of one object than are promised");
        }
        return reader;
    }

    int feed(int a, int b, int c, int d, int e) {
        return called().feed(a, b, c, d, e);
    }

    boolean end(int n) {
        return called().end(n);
    }

    boolean harm(int i, int b) {
        return called().harm(i, b);
    }

    int page(int from, int flags, long granule, int serial, int number, boolean open) {
        return called().page(from, flags, granule, serial, number, open);
    }

    int read() {
        return called().read();
    }

    int sample(int channel, int i) {
        return called().sample(channel, i);
    }

    int look(int what) {
        return called().look(what);
    }

    int sum(int channel) {
        return called().sum(channel);
    }

    int taped() {
        return called().taped();
    }
}
