import java.util.List;

/**
 * What the document says of all calls: "An object is used for at most 512 calls after it has been made", "A method that
 * throws an exception changes nothing", "If several exceptions apply, the one that is named first is thrown".
 */
final class EdgesOfAllTest extends Promises {
    private static final int CALLS = 512;
    private static final String BOUNDS = "IndexOutOfBoundsException";
    private static final String ARGUMENT = "IllegalArgumentException";
    private static final String STATE = "IllegalStateException";

    public static void main(String[] arguments) {
        EdgesOfAllTest test = new EdgesOfAllTest();
        test.fullObject();
        test.refusedByAFullObject();
        test.refusedByANewObject();
        test.refusedCallsUpToTheLast();
        test.toldUpToTheLast();
        test.askedUpToTheLast();
        test.objectsHaveNoPartInOneAnother();
        test.check.end();
    }

    /** Every answer of an object that is full is the one of the Model. */
    private void fullObject() {
        Face x = new Face(new BoundWright());
        Face y = new Face(new Model());
        int calls = FullObject.tell(x);
        check.due("calls to tell it", calls, FullObject.tell(y));
        check.due("they are not too many", calls < CALLS, true);
        int[] due = {KINDS, TYPES, METHODS};
        for (int what = 0; what < due.length; what++) {
            check.due("full, many(" + what + ")", x.number("many", what), due[what]);
        }
        same("full", State.of(x), State.of(y));
    }

    private void same(String what, List<String> found, List<String> wanted) {
        check.due(what + ", how many answers", found.size(), wanted.size());
        for (int k = 0; k < found.size() && k < wanted.size(); k++) {
            check.due(what, found.get(k), wanted.get(k));
        }
    }

    /** A refused call, and that every answer is the same behind it. */
    private void refused(Face face, List<String> before, String due, String name, Object... arguments) {
        StringBuilder call = new StringBuilder(name);
        for (Object each : arguments) {
            call.append(' ').append(each);
        }
        check.due(call.toString(), face.ask(name, arguments), due);
        check.due(call + ": nothing is changed", State.of(face).equals(before), true);
    }

    /** For each call the exceptions in the order in which they are named, the ones behind it applying, too. */
    private void refusedByAFullObject() {
        Face x = new Face(new BoundWright());
        FullObject.tell(x);
        List<String> before = State.of(x);
        refused(x, before, ARGUMENT, "kind", NONE, OUT, true);
        refused(x, before, ARGUMENT, "kind", 3, NONE, false);
        refused(x, before, STATE, "kind", OUT, IN, false);
        refused(x, before, BOUNDS, "bound", KINDS, 2, TYPES);
        refused(x, before, BOUNDS, "bound", 5, 1, INT);
        refused(x, before, BOUNDS, "bound", 5, 0, TYPES);
        refused(x, before, ARGUMENT, "bound", 5, 0, VARIABLE);
        refused(x, before, BOUNDS, "extend", 0, TYPES);
        refused(x, before, BOUNDS, "extend", KINDS, BOX);
        refused(x, before, ARGUMENT, "extend", 12, BOX);
        refused(x, before, STATE, "extend", 12, OBJECT);
        refused(x, before, BOUNDS, "ofKind", KINDS, 8);
        refused(x, before, ARGUMENT, "ofKind", 13, 8);
        refused(x, before, BOUNDS, "of", KINDS, 1, 1);
        refused(x, before, ARGUMENT, "of", 4, 1, ANY);
        refused(x, before, ARGUMENT, "of", 0, 0, 1);
        refused(x, before, STATE, "of", 13, ANY, ANY);
        refused(x, before, BOUNDS, "parameter", 13, 2);
        refused(x, before, STATE, "parameter", 13, 1);
        refused(x, before, BOUNDS, "array", TYPES);
        refused(x, before, ARGUMENT, "array", NULL);
        refused(x, before, STATE, "array", BOX);
        refused(x, before, BOUNDS, "ofType", TYPES, 6);
        refused(x, before, ARGUMENT, "ofType", TYPES - 1, 6);
        refused(x, before, BOUNDS, "isBelow", TYPES, TYPES);
        refused(x, before, BOUNDS, "join", INT, TYPES);
        refused(x, before, BOUNDS, "as", INT, KINDS);
        refused(x, before, BOUNDS, "areAll", TYPES, -1);
        refused(x, before, ARGUMENT, "areAll", TYPES - 1, 1 << KINDS);
        refused(x, before, BOUNDS, "method", KINDS, 8, NONE, INT, NONE, NULL, true);
        refused(x, before, BOUNDS, "method", 0, 8, NONE, INT, NONE, NONE, true);
        refused(x, before, ARGUMENT, "method", 0, 8, INT, INT, INT, INT, false);
        refused(x, before, STATE, "method", 0, 7, INT, INT, INT, INT, false);
        refused(x, before, BOUNDS, "variable", METHODS, INT);
        refused(x, before, ARGUMENT, "variable", 19, INT);
        refused(x, before, BOUNDS, "ofMethod", METHODS, 6);
        refused(x, before, ARGUMENT, "ofMethod", 19, 6);
        refused(x, before, BOUNDS, "call", TYPES, 8, NONE, INT, NONE, 5);
        refused(x, before, BOUNDS, "call", OBJECT, 8, NONE, TYPES, NONE, 5);
        refused(x, before, ARGUMENT, "call", OBJECT, 8, NONE, NONE, NONE, 0);
        refused(x, before, ARGUMENT, "call", OBJECT, 0, NONE, INT, NONE, 0);
        refused(x, before, ARGUMENT, "call", OBJECT, 0, BOX, NONE, NONE, 5);
        refused(x, before, BOUNDS, "members", TYPES, 8);
        refused(x, before, ARGUMENT, "members", OBJECT, 8);
        refused(x, before, BOUNDS, "fault", x.number("many", 3), 3);
        refused(x, before, ARGUMENT, "fault", 0, 3);
        refused(x, before, ARGUMENT, "many", 7);
        refused(x, before, BOUNDS, "pairsWith", 12, 0, 3);
        refused(x, before, ARGUMENT, "pairsWith", 13, 1, 3);
        refused(x, before, BOUNDS, "faultsWithout", METHODS);
    }

    /** The same of an object of which nothing was told: there is no parameter, no fault, and no method. */
    private void refusedByANewObject() {
        Face x = new Face(new BoundWright());
        List<String> before = State.of(x);
        for (int wrong : new int[] {LEAST, -2, -1, 33, MOST}) {
            refused(x, before, BOUNDS, "bound", wrong, wrong, wrong);
            refused(x, before, BOUNDS, "bound", 0, 0, OBJECT);
            refused(x, before, BOUNDS, "extend", wrong, OBJECT);
            refused(x, before, BOUNDS, "extend", 1, wrong);
            refused(x, before, ARGUMENT, "extend", 1, OBJECT);
            refused(x, before, BOUNDS, "ofKind", wrong, wrong);
            refused(x, before, ARGUMENT, "ofKind", 0, wrong);
            refused(x, before, BOUNDS, "of", wrong, 0, 0);
            refused(x, before, ARGUMENT, "of", 0, wrong, wrong);
            refused(x, before, BOUNDS, "parameter", wrong, 0);
            refused(x, before, BOUNDS, "parameter", 1, wrong);
            refused(x, before, BOUNDS, "array", wrong);
            refused(x, before, BOUNDS, "ofType", wrong, wrong);
            refused(x, before, ARGUMENT, "ofType", 4, wrong);
            refused(x, before, BOUNDS, "isBelow", wrong, wrong);
            refused(x, before, BOUNDS, "join", wrong, wrong);
            refused(x, before, BOUNDS, "as", wrong, wrong);
            refused(x, before, BOUNDS, "areAll", wrong, wrong);
            refused(x, before, ARGUMENT, "areAll", 0, wrong);
            refused(x, before, BOUNDS, "method", wrong, wrong, NONE, NONE, NONE, wrong, true);
            refused(x, before, ARGUMENT, "method", 0, wrong, NONE, NONE, NONE, INT, false);
            refused(x, before, BOUNDS, "variable", wrong, wrong);
            refused(x, before, BOUNDS, "variable", 0, OBJECT);
            refused(x, before, BOUNDS, "ofMethod", wrong, wrong);
            refused(x, before, BOUNDS, "ofMethod", 0, wrong);
            refused(x, before, BOUNDS, "call", wrong, wrong, NONE, NONE, NONE, wrong);
            refused(x, before, ARGUMENT, "call", 0, wrong, NONE, NONE, NONE, 0);
            refused(x, before, ARGUMENT, "call", 0, 0, NONE, NONE, NONE, wrong);
            refused(x, before, BOUNDS, "members", wrong, wrong);
            refused(x, before, ARGUMENT, "members", 0, wrong);
            refused(x, before, BOUNDS, "fault", wrong, wrong);
            refused(x, before, BOUNDS, "fault", 0, wrong);
            refused(x, before, ARGUMENT, "many", wrong);
            refused(x, before, BOUNDS, "pairsWith", wrong, 0, wrong);
            refused(x, before, BOUNDS, "pairsWith", 0, 0, wrong);
            refused(x, before, BOUNDS, "faultsWithout", wrong);
        }
    }

    /** 511 calls that are refused, of each sort, and the 512th is answered as the first one would be. */
    private void refusedCallsUpToTheLast() {
        Face x = new Face(new BoundWright());
        for (int call = 1; call < CALLS; call++) {
            int none = 4 + call;
            String found = call % 3 == 0 ? x.ask("kind", none, NONE, true)
                    : call % 3 == 1 ? x.ask("array", none) : x.ask("method", 1, 0, NONE, NONE, NONE, none, false);
            check.due("refused call " + call, found, call % 3 == 0 ? ARGUMENT : BOUNDS);
        }
        check.due("the 512th call", x.ask("kind", OUT, IN, true), "2");
        Face y = new Face(new BoundWright());
        check.due("the first call", y.ask("kind", OUT, IN, true), "2");
        same("after 512 calls", State.of(x), State.of(y));
    }

    /** An object that is told something in each of 512 calls: the last one is answered as all others. */
    private void toldUpToTheLast() {
        Face x = new Face(new BoundWright());
        int calls = FullObject.tell(x);
        int[] before = {OBJECT, OBJECT};
        for (; calls < CALLS; calls++) {
            int which = calls % 2;
            int type = calls % 4 < 2 ? BOX : OBJECT;
            String found = which == 0 ? x.ask("bound", 13, 1, type) : x.ask("variable", 19, type);
            check.due("call " + (calls + 1), found, String.valueOf(before[which]));
            before[which] = type;
        }
        Face y = new Face(new Model());
        FullObject.tell(y);
        y.ask("bound", 13, 1, before[0]);
        y.ask("variable", 19, before[1]);
        same("after 512 calls that tell", State.of(x), State.of(y));
    }

    /** A full object that is asked 512 times in all, each time what is dearest: it does not wear out. */
    private void askedUpToTheLast() {
        Face x = new Face(new BoundWright());
        int calls = FullObject.tell(x);
        String first = x.ask("digest");
        String pairs = x.ask("pairsWith", 13, 1, IN);
        for (calls += 2; calls < CALLS - 1; calls += 2) {
            check.due("digest(), call " + (calls + 1), x.ask("digest"), first);
            check.due("pairsWith(), call " + (calls + 2), x.ask("pairsWith", 13, 1, IN), pairs);
        }
        check.due("the last call", x.ask("digest"), first);
    }

    /** What one object is told another one does not know; both are used in turn. */
    private void objectsHaveNoPartInOneAnother() {
        Face x = new Face(new BoundWright());
        Face y = new Face(new BoundWright());
        List<String> before = State.of(y);
        FullObject.tell(x);
        same("a new one beside a full one", State.of(y), before);
        FullObject.tell(y);
        same("two full ones", State.of(x), State.of(y));
    }
}
