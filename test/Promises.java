/** The numbers of the document, for the tests of its promises. */
abstract class Promises {
    static final int INT = 0;
    static final int NULL = 1;
    static final int OBJECT = 2;
    static final int BOX = 3;
    static final int VARIABLE = 4;
    static final int NONE = -1;
    static final int ANY = -1;
    static final int AMBIGUOUS = -2;
    static final int NEITHER = 0;
    static final int OUT = 1;
    static final int IN = 2;
    static final int MOST = Integer.MAX_VALUE;
    static final int LEAST = Integer.MIN_VALUE;

    final Check check = new Check(getClass().getName());

    /** Arguments, as they are told. */
    static int exact(int type) {
        return 3 * type;
    }

    static int out(int type) {
        return 3 * type + OUT;
    }

    static int in(int type) {
        return 3 * type + IN;
    }
}
