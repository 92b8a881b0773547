/** An object that counts its calls: what it answers behind the 512th is free, so no test may ask for it. */
final class Counted {
    static final int MOST_CALLS = 512;

    private final NumbersInherited object = new NumbersInherited();
    private int calls;

    /** How many calls may still be made. */
    int left() {
        return MOST_CALLS - calls;
    }

    private NumbersInherited next() {
        calls++;
        if (calls > MOST_CALLS) {
            throw new IllegalStateException("a test makes more than " + MOST_CALLS + " calls on one object");
        }
        return object;
    }

    int set(int what, int of, int v) {
        return next().set(what, of, v);
    }

    int heir(int kind, int more) {
        return next().heir(kind, more);
    }

    int give(int a, int b, int n) {
        return next().give(a, b, n);
    }

    int told(int of, int what) {
        return next().told(of, what);
    }

    int feed(int letter) {
        return next().feed(letter);
    }

    int text() {
        return next().text();
    }

    int force(int text) {
        return next().force(text);
    }

    int says(int heir, int n, int what) {
        return next().says(heir, n, what);
    }

    int common(int a, int b) {
        return next().common(a, b);
    }

    int pays(int a, int b, int sum, int what) {
        return next().pays(a, b, sum, what);
    }

    int barred(int a, int b, int what) {
        return next().barred(a, b, what);
    }

    int silent(int what) {
        return next().silent(what);
    }

    int middle(int sum, int what) {
        return next().middle(sum, what);
    }

    int leave(int heir, int what) {
        return next().leave(heir, what);
    }

    int buy(int a, int b, int what) {
        return next().buy(a, b, what);
    }

    int pawn(int a, int b, int what) {
        return next().pawn(a, b, what);
    }

    int rows(int sheet, int a, int b, int what) {
        return next().rows(sheet, a, b, what);
    }

    int film(int sheet, int ab, int sum, int n) {
        return next().film(sheet, ab, sum, n);
    }

    int drawn(int seed) {
        return next().drawn(seed);
    }

    long chance(int seed, int n, int part) {
        return next().chance(seed, n, part);
    }

    int image() {
        return next().image();
    }

    int back() {
        return next().back();
    }

    int count(int what) {
        return next().count(what);
    }

    int sheet(int sheet, int sort, int n) {
        return next().sheet(sheet, sort, n);
    }

    int cell(int sheet, int i, int v) {
        return next().cell(sheet, i, v);
    }

    int copy(int sheet, int i, int other, int j, int n) {
        return next().copy(sheet, i, other, j, n);
    }

    int heirs(int sheet, int sort, int from, int n) {
        return next().heirs(sheet, sort, from, n);
    }

    int taken(int heir, int k) {
        return next().taken(heir, k);
    }
}
