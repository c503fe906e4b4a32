/** The draws of the document, for tests that foretell them. */
final class Draws {
    int z;

    Draws(int z) {
        this.z = z;
    }

    int next() {
        z = z * 1103515245 + 12345;
        return z >>> 8;
    }

    int rest(int by) {
        return next() % by;
    }
}
