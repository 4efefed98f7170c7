/** An object, or a Model, in which all that can be told is told: 14 classes, 33 types, 20 methods. */
final class FullObject {
    private static final int ANY = -1;
    private static final int NONE = -1;
    private static final int INT = 0;
    private static final int OBJECT = 2;
    private static final int BOX = 3;
    private static final int VARIABLE = 4;

    private final Face face;
    private int calls;
    private int source;
    private int list;
    private int element;
    private int first;
    private int second;
    private int lowest;

    private FullObject(Face face) {
        this.face = face;
    }

    /** Tells all of it, and answers how many calls that took. */
    static int tell(Face face) {
        FullObject full = new FullObject(face);
        full.tellKinds();
        full.tellTypes();
        full.tellMethods();
        return full.calls;
    }

    private int told(String name, Object... arguments) {
        calls++;
        return face.number(name, arguments);
    }

    private static int exact(int type) {
        return 3 * type;
    }

    private static int out(int type) {
        return 3 * type + 1;
    }

    private static int in(int type) {
        return 3 * type + 2;
    }

    private void kind(int first, int second, boolean isSealed) {
        told("kind", first, second, isSealed);
    }

    private int of(int kind, int first, int second) {
        return told("of", kind, first, second);
    }

    private void tellKinds() {
        int[][] variances = {{1, -1}, {2, -1}, {0, 0}, {0, -1}, {1, 2}, {0, 0}, {-1, -1}, {-1, -1}, {0, -1}, {1, -1},
            {-1, -1}, {2, 1}};
        for (int k = 0; k < variances.length; k++) {
            kind(variances[k][0], variances[k][1], k % 2 == 0);
        }
        element = told("parameter", 5, 0);
        first = told("parameter", 7, 0);
        second = told("parameter", 7, 1);
        source = of(2, exact(element), 0);
        told("extend", 5, source);
        told("extend", 7, of(4, exact(second), exact(first)));
        list = of(5, exact(first), 0);
        told("extend", 7, list);
        int ofBox = of(2, exact(BOX), 0);
        told("extend", 8, ofBox);
        int eight = of(8, 0, 0);
        told("extend", 9, eight);
        told("extend", 9, of(3, ANY, 0));
        int ten = told("parameter", 10, 0);
        told("extend", 10, of(7, exact(ten), exact(BOX)));
        told("extend", 10, of(2, exact(ten), 0));
        int eleven = told("parameter", 11, 0);
        told("extend", 11, of(6, exact(eleven), out(BOX)));
        told("extend", 12, of(9, 0, 0));
        told("extend", 12, of(10, exact(BOX), 0));
        told("extend", 12, OBJECT);
        told("extend", 13, of(11, in(eight), 0));
        told("bound", 7, 0, ofBox);
        told("bound", 10, 0, BOX);
        told("bound", 5, 0, source);
    }

    private void tellTypes() {
        lowest = of(12, 0, 0);
        of(13, ANY, out(lowest));
        told("array", INT);
        told("array", lowest);
        told("array", element);
        told("array", VARIABLE);
        of(5, out(VARIABLE), 0);
        of(7, exact(lowest), in(BOX));
        int deep = of(2, out(of(5, in(lowest), 0)), 0);
        of(4, exact(deep), ANY);
    }

    private void tellMethods() {
        int array = told("array", VARIABLE);
        int ofVariable = of(5, out(VARIABLE), 0);
        method(0, 0, VARIABLE, NONE, VARIABLE, false);
        method(0, 0, BOX, NONE, OBJECT, false);
        method(5, 0, element, NONE, element, false);
        method(7, 0, first, NONE, BOX, false);
        method(10, 0, BOX, NONE, INT, false);
        method(12, 0, BOX, NONE, OBJECT, false);
        method(12, 0, VARIABLE, NONE, VARIABLE, false);
        method(0, 1, array, NONE, VARIABLE, true);
        method(5, 1, VARIABLE, array, ofVariable, true);
        method(2, 1, told("array", INT), NONE, INT, true);
        method(5, 2, NONE, NONE, element, false);
        method(7, 2, NONE, NONE, first, false);
        method(12, 2, NONE, NONE, BOX, false);
        method(5, 2, source, element, told("array", element), false);
        method(7, 2, list, first, second, false);
        method(0, 3, INT, BOX, INT, false);
        method(0, 3, BOX, INT, BOX, false);
        method(1, 3, VARIABLE, VARIABLE, array, false);
        method(9, 3, ofVariable, VARIABLE, VARIABLE, false);
        method(12, 3, VARIABLE, ofVariable, lowest, false);
        told("variable", 6, BOX);
        told("variable", 8, of(2, exact(BOX), 0));
        told("variable", 17, lowest);
    }

    private void method(int kind, int name, int one, int other, int result, boolean isMany) {
        told("method", kind, name, one, other, NONE, result, isMany);
    }
}
