/** The numbers of the document, for the tests of its promises. */
abstract class Promises {
    static final int INT = 0;
    static final int NULL = 1;
    static final int OBJECT = 2;
    static final int BOX = 3;
    static final int VARIABLE = 4;
    static final int NONE = -1;
    static final int ANY = -1;
    static final int AMBIGUOUS = -2;
    static final int NEITHER = 0;
    static final int OUT = 1;
    static final int IN = 2;
    static final int MOST = Integer.MAX_VALUE;
    static final int LEAST = Integer.MIN_VALUE;
    static final int KINDS = 14;
    static final int TYPES = 33;
    static final int METHODS = 20;
    static final int NAMES = 8;
    private static final int MODULUS = 99991;

    final Check check = new Check(getClass().getName());

    /** Arguments, as they are told. */
    static int exact(int type) {
        return 3 * type;
    }

    static int out(int type) {
        return 3 * type + OUT;
    }

    static int in(int type) {
        return 3 * type + IN;
    }

    /** One class more without parameters, and its type. */
    static int plainType(BoundWright x) {
        return x.of(x.kind(NONE, NONE, false), 0, 0);
    }

    /** Classes without parameters, until there are so many. */
    static void fillKinds(BoundWright x, int count) {
        while (x.many(0) < count) {
            x.kind(NONE, NONE, false);
        }
    }

    /** Types of a class with two parameters, until there are so many: 2 deep, and none with ANY. */
    static void fillTypes(BoundWright x, int pair, int count) {
        for (int first = exact(OBJECT); first <= in(VARIABLE); first++) {
            for (int second = exact(OBJECT); second <= in(VARIABLE) && x.many(1) < count; second++) {
                x.of(pair, first, second);
            }
        }
    }

    /** Methods of OBJECT with that name and no formals, until there are so many. */
    static void fillMethods(BoundWright x, int name, int count) {
        while (x.many(2) < count) {
            x.method(0, name, NONE, NONE, NONE, INT, false);
        }
    }

    static int plainMethod(BoundWright x, int kind, int name, int first, int second) {
        return x.method(kind, name, first, second, NONE, INT, false);
    }

    /** All five answers of a call: CHOSEN, phase, CODE of RESULT, CODE of what VARIABLE is, CAST. */
    final void called(String what, BoundWright x, int type, int name, int[] given, int... due) {
        int[] all = {NONE, NONE, NONE};
        System.arraycopy(given, 0, all, 0, given.length);
        for (int k = 0; k < 5; k++) {
            int wanted = k < due.length ? due[k] : NONE;
            check.due(what + ", call " + k, x.call(type, name, all[0], all[1], all[2], k), wanted);
        }
    }

    static int[] given(int... types) {
        return types;
    }

    /** All faults, one after the other: each as its number, its class, and its method. */
    final void faults(String what, BoundWright x, int... due) {
        StringBuilder found = new StringBuilder();
        for (int k = 0; k < x.many(3); k++) {
            found.append(x.fault(k, 0)).append(' ').append(x.fault(k, 1)).append(' ').append(x.fault(k, 2)).append(' ');
        }
        StringBuilder wanted = new StringBuilder();
        for (int each : due) {
            wanted.append(each).append(' ');
        }
        check.due(what + ", fault()", found.toString(), wanted.toString());
        check.due(what + ", many(3)", x.many(3), due.length / 3);
    }

    static int method(BoundWright x, int kind, int name, int first, int second, int result) {
        return x.method(kind, name, first, second, NONE, result, false);
    }

    final void mean(String what, BoundWright x, double due) {
        check.due("meanMembers(), " + what, String.valueOf(x.meanMembers()), String.valueOf(due));
    }

    static int codeOf(BoundWright x, int type) {
        return x.ofType(type, 2);
    }

    /** CODES of types that need not be told, from the document's words. */
    static int codeOfClass(int kind, int... arguments) {
        int code = 50 + kind;
        for (int each : arguments) {
            code = (31 * code + each) % MODULUS;
        }
        return code;
    }

    static int codeOfArray(int code) {
        return (17 * code + 5) % MODULUS;
    }

    static int codeOfParameter(int kind, int parameter) {
        return 10 + 2 * kind + parameter;
    }

    /** What an argument adds to the CODE of its class. */
    static final int CODE_OF_ANY = 7;

    static int codeOfArgument(int code, int mode) {
        return 8 + 3 * code + mode;
    }
}
