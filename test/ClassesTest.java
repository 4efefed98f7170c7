/** Promises 1 to 5: a new object, and the classes. */
final class ClassesTest extends Promises {
    public static void main(String[] arguments) {
        ClassesTest test = new ClassesTest();
        test.newObject();
        test.kindTells();
        test.kindRefuses();
        test.boundSets();
        test.boundRefuses();
        test.extendTells();
        test.extendRefuses();
        test.ofKindOfFamily();
        test.ofKindOfMethods();
        test.ofKindRefuses();
        test.check.end();
    }

    // ---- promise 1

    private void newObject() {
        BoundWright x = new BoundWright();
        int[] many = {2, 5, 0, 0, 0, 0, 5};
        for (int what = 0; what < many.length; what++) {
            check.due("new, many(" + what + ")", x.many(what), many[what]);
        }
        int[][] kinds = {{0, 0, 0, 2, 0, 0, 0, 0}, {0, 1, 1, 0, 0, 0, 0, 0}};
        for (int kind = 0; kind < 2; kind++) {
            for (int what = 0; what <= 7; what++) {
                check.due("new, ofKind(" + kind + ", " + what + ")", x.ofKind(kind, what), kinds[kind][what]);
            }
        }
        int[] sorts = {0, 1, 2, 2, 3};
        int[] erased = {100, 101, 0, 1, 0};
        int[] codes = {1, 2, 50, 51, 3};
        int[] closed = {1, 1, 1, 1, 0};
        for (int type = 0; type < 5; type++) {
            check.due("new, ofType(" + type + ", 0)", x.ofType(type, 0), sorts[type]);
            check.due("new, ofType(" + type + ", 1)", x.ofType(type, 1), erased[type]);
            check.due("new, ofType(" + type + ", 2)", x.ofType(type, 2), codes[type]);
            check.due("new, ofType(" + type + ", 3)", x.ofType(type, 3), closed[type]);
            check.due("new, ofType(" + type + ", 4)", x.ofType(type, 4), 1);
            check.due("new, ofType(" + type + ", 5)", x.ofType(type, 5), 0);
        }
        check.due("two new ones, digest()", new BoundWright().digest(), x.digest());
        check.due("the types of OBJECT and BOX are there, of(0, 0, 0)", x.of(0, 0, 0), OBJECT);
        check.due("of(1, 0, 0)", x.of(1, 0, 0), BOX);
        BoundWright other = new BoundWright();
        other.kind(NONE, NONE, false);
        check.due("another object has no part in it, many(0)", x.many(0), 2);
    }

    // ---- promise 2

    private void kindTells() {
        BoundWright x = new BoundWright();
        check.due("kind(-1, -1, false)", x.kind(NONE, NONE, false), 2);
        check.due("kind(0, -1, true)", x.kind(0, NONE, true), 3);
        check.due("kind(1, 2, true)", x.kind(1, 2, true), 4);
        check.due("ofKind(2, 0)", x.ofKind(2, 0), 0);
        check.due("ofKind(3, 0)", x.ofKind(3, 0), 1);
        check.due("ofKind(4, 0)", x.ofKind(4, 0), 2);
        check.due("many(5), SEALED", x.many(5), 2);
        check.due("extends OBJECT, ofKind(2, 1)", x.ofKind(2, 1), 1);
        check.due("ofKind(0, 3)", x.ofKind(0, 3), 2 + 4 + 8 + 16);
        int box = x.of(3, 3 * BOX, 0);
        int object = x.of(3, 3 * OBJECT, 0);
        check.due("NEITHER", x.isBelow(box, object), false);
        int outBoxInObject = x.of(4, 3 * BOX, 3 * OBJECT);
        int outObjectInBox = x.of(4, 3 * OBJECT, 3 * BOX);
        check.due("OUT and IN", x.isBelow(outBoxInObject, outObjectInBox), true);
        check.due("OUT and IN, turned", x.isBelow(outObjectInBox, outBoxInObject), false);
        for (int kind = 5; kind < 14; kind++) {
            check.due("kind() of number " + kind, x.kind(NONE, NONE, false), kind);
        }
        check.state("a 15th kind()", x, () -> x.kind(NONE, NONE, false));
        check.argument("a 15th kind() with no variance is refused for that first", x, () -> x.kind(3, NONE, false));
        check.due("many(0)", x.many(0), 14);
    }

    private void kindRefuses() {
        BoundWright x = new BoundWright();
        int[] wrong = {-2, 3, MOST, LEAST};
        for (int each : wrong) {
            check.argument("kind(" + each + ", -1)", x, () -> x.kind(each, NONE, false));
            check.argument("kind(0, " + each + ")", x, () -> x.kind(0, each, true));
        }
        for (int variance = 0; variance <= 2; variance++) {
            int second = variance;
            check.argument("kind(-1, " + second + ")", x, () -> x.kind(NONE, second, false));
        }
        check.due("many(0)", x.many(0), 2);
    }

    // ---- promise 3

    private void boundSets() {
        BoundWright x = new BoundWright();
        int low = x.kind(0, NONE, false);
        int high = x.kind(0, 0, false);
        int first = x.parameter(high, 0);
        int lowOfFirst = x.of(low, 3 * first, 0);
        int highOfBoth = x.of(high, 3 * first, NONE);
        check.due("OBJECT, at first", x.bound(high, 0, BOX), OBJECT);
        check.due("the one before", x.bound(high, 0, lowOfFirst), BOX);
        check.due("the one before, simple", x.bound(high, 0, highOfBoth), lowOfFirst);
        check.due("its own class", x.bound(high, 0, OBJECT), highOfBoth);
        check.due("the other parameter", x.bound(high, 1, BOX), OBJECT);
        check.due("stays", x.bound(high, 1, BOX), BOX);
        int second = x.parameter(high, 1);
        check.due("a PARAMETER is below its BOUND", x.isBelow(second, BOX), true);
        check.due("erased to its BOUND", x.ofType(second, 1), 1);
        check.due("the other one is not", x.isBelow(first, BOX), false);
    }

    private void boundRefuses() {
        BoundWright x = new BoundWright();
        int low = x.kind(0, NONE, false);
        int high = x.kind(0, NONE, false);
        int plain = x.kind(NONE, NONE, false);
        int lows = x.parameter(low, 0);
        int highs = x.parameter(high, 0);
        int array = x.array(BOX);
        int lowOfLow = x.of(low, 3 * lows, 0);
        int lowOfHighOut = x.of(low, 3 * highs + 1, 0);
        int lowOfArray = x.of(low, 3 * x.array(highs), 0);
        int lowOfVariable = x.of(low, 3 * VARIABLE, 0);
        int highOfBox = x.of(high, 3 * BOX, 0);
        int lowOfClosed = x.of(low, 3 * array + 2, 0);
        check.bounds("no class", x, () -> x.bound(5, 0, OBJECT));
        check.bounds("class -1", x, () -> x.bound(-1, 0, OBJECT));
        check.bounds("class LEAST", x, () -> x.bound(LEAST, 0, OBJECT));
        check.bounds("no parameter", x, () -> x.bound(low, 1, OBJECT));
        check.bounds("parameter -1", x, () -> x.bound(low, -1, OBJECT));
        check.bounds("a class with none", x, () -> x.bound(plain, 0, OBJECT));
        check.bounds("OBJECT has none", x, () -> x.bound(0, 0, OBJECT));
        check.bounds("no type", x, () -> x.bound(low, 0, x.many(1)));
        check.bounds("type NONE", x, () -> x.bound(low, 0, NONE));
        check.bounds("type MOST", x, () -> x.bound(low, 0, MOST));
        check.argument("INT", x, () -> x.bound(low, 0, INT));
        check.argument("NULL", x, () -> x.bound(low, 0, NULL));
        check.argument("VARIABLE", x, () -> x.bound(low, 0, VARIABLE));
        check.argument("a PARAMETER", x, () -> x.bound(low, 0, lows));
        check.argument("an ARRAY", x, () -> x.bound(low, 0, array));
        check.argument("a greater class", x, () -> x.bound(low, 0, highOfBox));
        check.argument("a PARAMETER of another class", x, () -> x.bound(high, 0, lowOfLow));
        check.argument("a PARAMETER that is not EXACT", x, () -> x.bound(high, 0, lowOfHighOut));
        check.argument("an ARRAY of a PARAMETER", x, () -> x.bound(high, 0, lowOfArray));
        check.argument("VARIABLE is not CLOSED", x, () -> x.bound(high, 0, lowOfVariable));
        check.due("a CLOSED ARGUMENT", x.bound(high, 0, lowOfClosed), OBJECT);
        check.due("its own class with a CLOSED one", x.bound(high, 0, highOfBox), lowOfClosed);
    }

    // ---- promise 4

    private void extendTells() {
        BoundWright x = new BoundWright();
        int list = x.kind(1, NONE, false);
        int pair = x.kind(0, 0, false);
        int low = x.kind(NONE, NONE, false);
        int both = x.kind(0, 0, false);
        int first = x.parameter(both, 0);
        int second = x.parameter(both, 1);
        int listOfSecond = x.of(list, 3 * second, 0);
        int pairTurned = x.of(pair, 3 * second, 3 * first);
        int lowType = x.of(low, 0, 0);
        check.due("before, OBJECT alone", x.ofKind(both, 1), 1);
        check.due("the first one is instead of OBJECT", x.extend(both, listOfSecond), 1);
        check.due("ofKind 1", x.ofKind(both, 1), 1);
        check.due("OBJECT is still above", x.ofKind(both, 2), 1 + (1 << list));
        check.due("the second one", x.extend(both, pairTurned), 2);
        check.due("the third one", x.extend(both, lowType), 3);
        check.due("ofKind 1 then", x.ofKind(both, 1), 3);
        check.due("above", x.ofKind(both, 2), 1 + (1 << list) + (1 << pair) + (1 << low));
        check.due("OBJECT is no longer extended by it", x.ofKind(0, 3) >> both & 1, 0);
        check.state("a fourth one", x, () -> x.extend(both, OBJECT));
        check.argument("a fourth one that is BOX is refused for that first", x, () -> x.extend(both, BOX));
        int next = x.kind(NONE, NONE, false);
        check.due("OBJECT can be told", x.extend(next, OBJECT), 1);
        check.state("OBJECT once more", x, () -> x.extend(next, OBJECT));
        int listOfAny = x.of(list, NONE, 0);
        int listOfBox = x.of(list, 3 * BOX + 2, 0);
        check.due("with ANY", x.extend(next, listOfAny), 2);
        check.state("of that class once more", x, () -> x.extend(next, listOfBox));
        check.due("another", x.extend(next, lowType), 3);
        check.due("ofKind 1 with OBJECT", x.ofKind(next, 1), 3);
    }

    private void extendRefuses() {
        BoundWright x = new BoundWright();
        int low = x.kind(0, NONE, false);
        int high = x.kind(0, NONE, false);
        int last = x.kind(NONE, NONE, false);
        int lows = x.parameter(low, 0);
        int highs = x.parameter(high, 0);
        int array = x.array(BOX);
        int lowOfLow = x.of(low, 3 * lows, 0);
        int lowOfHighIn = x.of(low, 3 * highs + 2, 0);
        int lowOfArray = x.of(low, 3 * x.array(highs), 0);
        int lowOfVariable = x.of(low, 3 * VARIABLE, 0);
        int highOfBox = x.of(high, 3 * BOX, 0);
        int lastType = x.of(last, 0, 0);
        check.bounds("no class", x, () -> x.extend(5, OBJECT));
        check.bounds("class -1", x, () -> x.extend(-1, OBJECT));
        check.bounds("class MOST", x, () -> x.extend(MOST, OBJECT));
        check.bounds("no type", x, () -> x.extend(last, x.many(1)));
        check.bounds("type NONE", x, () -> x.extend(last, NONE));
        check.bounds("no type for OBJECT is refused for that first", x, () -> x.extend(0, LEAST));
        check.argument("OBJECT", x, () -> x.extend(0, OBJECT));
        check.argument("BOX", x, () -> x.extend(1, OBJECT));
        check.argument("INT", x, () -> x.extend(last, INT));
        check.argument("NULL", x, () -> x.extend(last, NULL));
        check.argument("the type BOX", x, () -> x.extend(last, BOX));
        check.argument("VARIABLE", x, () -> x.extend(last, VARIABLE));
        check.argument("a PARAMETER", x, () -> x.extend(low, lows));
        check.argument("an ARRAY", x, () -> x.extend(last, array));
        check.argument("itself", x, () -> x.extend(last, lastType));
        check.argument("a greater class", x, () -> x.extend(low, highOfBox));
        check.argument("a PARAMETER of another class", x, () -> x.extend(high, lowOfLow));
        check.argument("a PARAMETER that is IN", x, () -> x.extend(high, lowOfHighIn));
        check.argument("an ARRAY of a PARAMETER", x, () -> x.extend(high, lowOfArray));
        check.argument("with VARIABLE", x, () -> x.extend(high, lowOfVariable));
        check.due("nothing was told", x.ofKind(high, 1), 1);
        check.due("a CLOSED one", x.extend(last, highOfBox), 1);
    }

    // ---- promise 5

    private void ofKindOfFamily() {
        BoundWright x = new BoundWright();
        int top = x.kind(NONE, NONE, false);
        int left = x.kind(NONE, NONE, false);
        int right = x.kind(NONE, NONE, false);
        int low = x.kind(NONE, NONE, false);
        int topType = x.of(top, 0, 0);
        x.extend(low, x.of(right, 0, 0));
        x.extend(low, x.of(left, 0, 0));
        check.due("above low, before its own ones extend", x.ofKind(low, 2), 1 + (1 << right) + (1 << left));
        x.extend(left, topType);
        x.extend(right, topType);
        check.due("above low, after", x.ofKind(low, 2), 1 + (1 << right) + (1 << left) + (1 << top));
        check.due("who extends top", x.ofKind(top, 3), (1 << left) + (1 << right));
        check.due("who extends left", x.ofKind(left, 3), 1 << low);
        check.due("who extends low", x.ofKind(low, 3), 0);
        check.due("who extends OBJECT", x.ofKind(0, 3), 2 + (1 << top));
        check.due("above top", x.ofKind(top, 2), 1);
        check.due("BOX is above none", x.ofKind(1, 3), 0);
    }

    private void ofKindOfMethods() {
        BoundWright x = new BoundWright();
        int list = x.kind(1, NONE, false);
        int low = x.kind(NONE, NONE, false);
        int element = x.parameter(list, 0);
        x.extend(low, x.of(list, 3 * BOX, 0));
        x.method(0, 0, NONE, NONE, NONE, OBJECT, false);
        int put = x.method(list, 1, element, NONE, NONE, element, false);
        x.method(list, 2, NONE, NONE, NONE, INT, false);
        int over = x.method(low, 1, BOX, NONE, NONE, BOX, false);
        check.due("methods of list", x.ofKind(list, 4), 2);
        check.due("methods of low", x.ofKind(low, 4), 1);
        check.due("methods of BOX", x.ofKind(1, 4), 0);
        check.due("members of OBJECT", x.ofKind(0, 5), 1);
        check.due("members of BOX", x.ofKind(1, 5), 1);
        check.due("members of list", x.ofKind(list, 5), 3);
        check.due("members of low, but what it overrides", x.ofKind(low, 5), 3);
        check.due("it overrides", x.ofMethod(over, 3), 1 << put);
        check.due("bridges of low", x.ofKind(low, 6), 1);
        check.due("bridges of list", x.ofKind(list, 6), 0);
        check.due("faults of list: a FORMAL that is OUT", x.ofKind(list, 7), 1);
        check.due("faults of low", x.ofKind(low, 7), 0);
    }

    private void ofKindRefuses() {
        BoundWright x = new BoundWright();
        int[] none = {-1, 2, 14, MOST, LEAST};
        for (int each : none) {
            check.bounds("ofKind(" + each + ", 0)", x, () -> x.ofKind(each, 0));
            check.bounds("ofKind(" + each + ", 8) is refused for the class first", x, () -> x.ofKind(each, 8));
        }
        int[] wrong = {-1, 8, MOST, LEAST};
        for (int each : wrong) {
            check.argument("ofKind(0, " + each + ")", x, () -> x.ofKind(0, each));
        }
    }
}
