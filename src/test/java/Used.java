/**
 * A FormPlaces that counts its calls. The document promises nothing of what comes after the 512th call of
 * an object, so a test that goes beyond it would ask for more than is promised: it ends here.
 */
final class Used {
    static final int MOST_CALLS = 512;

    private final FormPlaces places = new FormPlaces();
    private int calls;

    int calls() {
        return calls;
    }

    private FormPlaces next() {
        calls++;
        if (calls > MOST_CALLS) throw new IllegalStateException("a test makes more than " + MOST_CALLS + " calls on one object");
        return places;
    }

    int letter(int code) {
        return next().letter(code);
    }

    int blank() {
        return next().blank();
    }

    int fault() {
        return next().fault();
    }

    int put(int shelf) {
        return next().put(shelf);
    }

    int classOf(int number) {
        return next().classOf(number);
    }

    int core(int kind) {
        return next().core(kind);
    }

    int symbol(int one, int other, int place) {
        return next().symbol(one, other, place);
    }

    int square(int kind, int place) {
        return next().square(kind, place);
    }

    int at(int shelf, int term) {
        return next().at(shelf, term);
    }

    int about(int shelf, int what) {
        return next().about(shelf, what);
    }

    int like(int one, int other) {
        return next().like(one, other);
    }

    int meets(int shelf, int number) {
        return next().meets(shelf, number);
    }

    int row(int shelf, int term) {
        return next().row(shelf, term);
    }

    int way(int shelf, int number, int term) {
        return next().way(shelf, number, term);
    }

    int clear(int shelf) {
        return next().clear(shelf);
    }

    int join(int one, int other, int to) {
        return next().join(one, other, to);
    }

    int times(int one, int other, int to) {
        return next().times(one, other, to);
    }

    int scale(int shelf, int number) {
        return next().scale(shelf, number);
    }

    int turn(int shelf, int i, int j, int x, int y) {
        return next().turn(shelf, i, j, x, y);
    }

    int drop(int shelf, int term) {
        return next().drop(shelf, term);
    }

    int undo() {
        return next().undo();
    }

    int pairs(int n) {
        return next().pairs(n);
    }

    int pair(int pair, int what) {
        return next().pair(pair, what);
    }

    int met(int pair, int rest) {
        return next().met(pair, rest);
    }

    int lay(int pair, int shelf) {
        return next().lay(pair, shelf);
    }

    int count(int what) {
        return next().count(what);
    }

    long digest() {
        return next().digest();
    }
}
