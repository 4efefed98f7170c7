/** Promises 14 to 18: the methods, and calls. */
final class MethodsTest extends Promises {
    public static void main(String[] arguments) {
        MethodsTest test = new MethodsTest();
        test.methodTells();
        test.methodRefuses();
        test.variableSets();
        test.variableRefuses();
        test.ofMethodPlain();
        test.overriding();
        test.bridges();
        test.members();
        test.callInPhases();
        test.callOfMany();
        test.callOfMostSpecial();
        test.callOnArguments();
        test.callOfVariable();
        test.callOfVariableInside();
        test.callOfVariableOfMany();
        test.callWithBoundOfVariable();
        test.callOnVariable();
        test.callRefuses();
        test.check.end();
    }

    // ---- promise 14

    private void methodTells() {
        BoundWright x = new BoundWright();
        int list = x.kind(NEITHER, NONE, false);
        int element = x.parameter(list, 0);
        int array = x.array(element);
        check.due("the first", x.method(0, 0, NONE, NONE, NONE, INT, false), 0);
        check.due("on BOX", x.method(1, 7, INT, NONE, NONE, OBJECT, false), 1);
        check.due("with its PARAMETER", x.method(list, 3, element, x.of(list, exact(array), 0), NONE, array, false), 2);
        check.due("MANY", x.method(list, 3, VARIABLE, INT, array, VARIABLE, true), 3);
        check.due("MANY with one", x.method(0, 3, x.array(INT), NONE, NONE, VARIABLE, true), 4);
        check.due("how many", x.many(2), 5);
        int[] counts = {0, 1, 2, 3, 1};
        for (int method = 0; method < 5; method++) {
            check.due("FORMALS of " + method, x.ofMethod(method, 2), counts[method]);
        }
        for (int method = 5; method < 20; method++) {
            check.due("number", x.method(0, 1, NONE, NONE, NONE, INT, false), method);
        }
        check.state("a 21st", x, () -> x.method(0, 1, NONE, NONE, NONE, INT, false));
        check.argument("a 21st with no name is refused for that first", x,
                () -> x.method(0, 8, NONE, NONE, NONE, INT, false));
        check.bounds("a 21st of no class is refused for that first", x,
                () -> x.method(9, 8, NONE, NONE, NONE, INT, false));
        check.due("how many at the end", x.many(2), 20);
    }

    private void methodRefuses() {
        BoundWright x = new BoundWright();
        int list = x.kind(NEITHER, NONE, false);
        int other = x.kind(NEITHER, NONE, false);
        int element = x.parameter(list, 0);
        int array = x.array(BOX);
        int deep = x.of(other, exact(x.array(element)), 0);
        int count = x.many(1);
        for (int none : new int[] {-1, 4, 14, MOST, LEAST}) {
            check.bounds("class " + none, x, () -> x.method(none, 0, NONE, NONE, NONE, INT, false));
        }
        for (int none : new int[] {-2, count, MOST, LEAST}) {
            check.bounds("first " + none, x, () -> x.method(0, 0, none, NONE, NONE, INT, false));
            check.bounds("second " + none, x, () -> x.method(0, 0, INT, none, NONE, INT, false));
            check.bounds("third " + none, x, () -> x.method(0, 0, INT, INT, none, INT, false));
            check.bounds("result " + none, x, () -> x.method(0, 0, NONE, NONE, NONE, none, false));
            check.bounds("third behind NONE, with no name, first", x,
                    () -> x.method(0, 9, NONE, NONE, none, NULL, true));
        }
        check.bounds("result NONE", x, () -> x.method(0, 0, NONE, NONE, NONE, NONE, false));
        for (int wrong : new int[] {-1, 8, MOST, LEAST}) {
            check.argument("name " + wrong, x, () -> x.method(0, wrong, NONE, NONE, NONE, INT, false));
        }
        check.argument("second behind NONE", x, () -> x.method(0, 0, NONE, INT, NONE, INT, false));
        check.argument("third behind NONE", x, () -> x.method(0, 0, INT, NONE, INT, INT, false));
        check.argument("third behind two", x, () -> x.method(0, 0, NONE, NONE, INT, INT, false));
        check.argument("first NULL", x, () -> x.method(0, 0, NULL, NONE, NONE, INT, false));
        check.argument("second NULL", x, () -> x.method(0, 0, INT, NULL, NONE, INT, false));
        check.argument("third NULL", x, () -> x.method(0, 0, INT, INT, NULL, INT, false));
        check.argument("result NULL", x, () -> x.method(0, 0, NONE, NONE, NONE, NULL, false));
        check.argument("a PARAMETER of another", x, () -> x.method(other, 0, element, NONE, NONE, INT, false));
        check.argument("one in it", x, () -> x.method(other, 0, INT, deep, NONE, INT, false));
        check.argument("one in the RESULT", x, () -> x.method(other, 0, INT, INT, INT, deep, false));
        check.argument("MANY without FORMALS", x, () -> x.method(0, 0, NONE, NONE, NONE, INT, true));
        check.argument("MANY with no ARRAY", x, () -> x.method(0, 0, BOX, NONE, NONE, INT, true));
        check.argument("MANY with no ARRAY at last", x, () -> x.method(0, 0, array, BOX, NONE, INT, true));
        check.argument("MANY with VARIABLE", x, () -> x.method(0, 0, VARIABLE, NONE, NONE, INT, true));
        check.due("none was told", x.many(2), 0);
        check.due("the class of it may", x.method(list, 0, deep, array, NONE, element, true), 0);
    }

    // ---- promise 15

    private void variableSets() {
        BoundWright x = new BoundWright();
        int list = x.kind(NEITHER, NONE, false);
        int ofBox = x.of(list, out(BOX), 0);
        int method = x.method(0, 0, VARIABLE, NONE, NONE, VARIABLE, false);
        int other = x.method(0, 1, VARIABLE, NONE, NONE, x.array(VARIABLE), false);
        check.due("OBJECT, at first", x.variable(method, BOX), OBJECT);
        check.due("the one before", x.variable(method, ofBox), BOX);
        check.due("another method", x.variable(other, x.of(list, ANY, 0)), OBJECT);
        check.due("ERASED by it", x.ofMethod(method, 4), list);
        check.due("ERASED ARRAY by it", x.ofMethod(other, 4), 1000 + list);
        check.due("back", x.variable(method, OBJECT), ofBox);
        check.due("ERASED then", x.ofMethod(method, 4), 0);
        check.due("elsewhere VARIABLE is as OBJECT", x.ofType(VARIABLE, 1), 0);
    }

    private void variableRefuses() {
        BoundWright x = new BoundWright();
        int list = x.kind(NEITHER, NONE, false);
        int element = x.parameter(list, 0);
        int ofElement = x.of(list, exact(element), 0);
        int ofVariable = x.of(list, out(x.array(VARIABLE)), 0);
        int array = x.array(BOX);
        check.bounds("before there is one", x, () -> x.variable(0, OBJECT));
        int method = x.method(list, 0, VARIABLE, NONE, NONE, VARIABLE, false);
        for (int none : new int[] {-1, 1, 20, MOST, LEAST}) {
            check.bounds("method " + none, x, () -> x.variable(none, OBJECT));
            check.bounds("method " + none + ", first", x, () -> x.variable(none, INT));
        }
        for (int none : new int[] {-1, array + 1, MOST, LEAST}) {
            check.bounds("type " + none, x, () -> x.variable(method, none));
        }
        for (int wrong : new int[] {INT, NULL, VARIABLE, element, ofElement, ofVariable, array}) {
            check.argument("type " + wrong, x, () -> x.variable(method, wrong));
        }
        check.due("nothing was set", x.variable(method, BOX), OBJECT);
    }

    // ---- promise 16

    private void ofMethodPlain() {
        BoundWright x = new BoundWright();
        int list = x.kind(NEITHER, NONE, false);
        int element = x.parameter(list, 0);
        int method = x.method(list, 6, x.array(element), x.array(INT), NONE, x.array(element), true);
        int[] due = {list, 6, 2, 0, 1000, 0};
        for (int what = 0; what < 6; what++) {
            check.due("ofMethod " + what, x.ofMethod(method, what), due[what]);
        }
        x.bound(list, 0, BOX);
        check.due("ERASED by the BOUND", x.ofMethod(method, 4), 1001);
        int ints = x.method(0, 0, NONE, NONE, NONE, INT, false);
        check.due("ERASED INT", x.ofMethod(ints, 4), 100);
        for (int none : new int[] {-1, 2, MOST, LEAST}) {
            check.bounds("ofMethod(" + none + ", 0)", x, () -> x.ofMethod(none, 0));
            check.bounds("ofMethod(" + none + ", 6) is refused for the method first", x, () -> x.ofMethod(none, 6));
        }
        for (int wrong : new int[] {-1, 6, MOST, LEAST}) {
            check.argument("ofMethod(0, " + wrong + ")", x, () -> x.ofMethod(method, wrong));
        }
    }

    private void overriding() {
        BoundWright x = new BoundWright();
        int list = x.kind(NEITHER, NONE, false);
        int middle = x.kind(NEITHER, NONE, false);
        int low = x.kind(NONE, NONE, false);
        int element = x.parameter(list, 0);
        int middles = x.parameter(middle, 0);
        int ofElement = x.of(list, in(element), 0);
        int ofMiddles = x.of(list, in(middles), 0);
        int ofBoxes = x.of(list, in(x.array(BOX)), 0);
        int put = x.method(list, 0, element, ofElement, NONE, INT, false);
        int generic = x.method(list, 1, VARIABLE, NONE, NONE, VARIABLE, false);
        int late = x.method(middle, 0, middles, ofMiddles, NONE, OBJECT, false);
        int otherName = x.method(middle, 1, middles, ofMiddles, NONE, OBJECT, false);
        int genericToo = x.method(middle, 1, VARIABLE, NONE, NONE, BOX, false);
        check.due("nothing is above yet", x.ofMethod(late, 3), 0);
        x.extend(middle, x.of(list, exact(middles), 0));
        check.due("then it overrides", x.ofMethod(late, 3), 1 << put);
        check.due("another NAME, more FORMALS", x.ofMethod(otherName, 3), 0);
        check.due("VARIABLE is the same", x.ofMethod(genericToo, 3), 1 << generic);
        check.due("not the other way", x.ofMethod(put, 3), 0);
        int boxes = x.array(BOX);
        x.extend(low, x.of(middle, exact(boxes), 0));
        int lowest = x.method(low, 0, boxes, ofBoxes, NONE, VARIABLE, false);
        check.due("all above", x.ofMethod(lowest, 3), (1 << put) + (1 << late));
        int almost = x.method(low, 0, boxes, x.of(list, exact(boxes), 0), NONE, VARIABLE, false);
        check.due("another MODE is not the same", x.ofMethod(almost, 3), 0);
        int first = x.method(low, 0, boxes, NONE, NONE, INT, false);
        check.due("less FORMALS", x.ofMethod(first, 3), 0);
        int many = x.method(low, 0, boxes, ofBoxes, NONE, INT, false);
        check.due("two of one class override the same", x.ofMethod(many, 3), (1 << put) + (1 << late));
        check.due("members of low with the NAME", x.members(x.of(low, 0, 0), 0),
                (1 << lowest) + (1 << almost) + (1 << first) + (1 << many));
    }

    private void bridges() {
        BoundWright x = new BoundWright();
        int list = x.kind(NEITHER, NONE, false);
        int other = x.kind(NEITHER, NONE, false);
        int low = x.kind(NONE, NONE, false);
        int element = x.parameter(list, 0);
        int others = x.parameter(other, 0);
        x.method(list, 0, element, NONE, NONE, OBJECT, false);
        x.method(list, 1, NONE, NONE, NONE, element, false);
        x.method(list, 2, BOX, NONE, NONE, OBJECT, false);
        x.method(other, 0, others, NONE, NONE, OBJECT, false);
        x.method(other, 1, NONE, NONE, NONE, BOX, false);
        x.method(other, 2, others, NONE, NONE, INT, false);
        x.extend(low, x.of(list, exact(BOX), 0));
        x.extend(low, x.of(other, exact(BOX), 0));
        int zero = x.method(low, 0, BOX, NONE, NONE, OBJECT, false);
        int one = x.method(low, 1, NONE, NONE, NONE, BOX, false);
        int two = x.method(low, 2, BOX, NONE, NONE, OBJECT, false);
        check.due("two that are ERASED alike count once", x.ofMethod(zero, 5), 1);
        check.due("one is ERASED as it is", x.ofMethod(one, 5), 1);
        check.due("the RESULT, too", x.ofMethod(two, 5), 1);
        check.due("of the class", x.ofKind(low, 6), 3);
        check.due("of all", x.many(4), 3);
        x.bound(other, 0, BOX);
        check.due("by another BOUND", x.ofMethod(zero, 5), 1);
        x.bound(list, 0, BOX);
        check.due("none then", x.ofMethod(zero, 5), 0);
        check.due("none of 1", x.ofMethod(one, 5), 0);
        check.due("still of 2", x.ofMethod(two, 5), 1);
        int three = x.method(low, 3, VARIABLE, NONE, NONE, VARIABLE, false);
        x.method(0, 3, VARIABLE, NONE, NONE, VARIABLE, false);
        check.due("VARIABLE with the same BOUND", x.ofMethod(three, 5), 0);
        x.variable(three, BOX);
        check.due("VARIABLE with another BOUND", x.ofMethod(three, 5), 1);
    }

    // ---- promise 18

    private void members() {
        BoundWright x = new BoundWright();
        int top = x.kind(NEITHER, NONE, false);
        int low = x.kind(NONE, NONE, false);
        int aside = x.kind(NONE, NONE, false);
        int element = x.parameter(top, 0);
        int object = plainMethod(x, 0, 5, NONE, NONE);
        int get = x.method(top, 5, element, NONE, NONE, element, false);
        int plain = plainMethod(x, top, 2, NONE, NONE);
        plainMethod(x, aside, 5, NONE, NONE);
        x.extend(low, x.of(top, exact(BOX), 0));
        int over = x.method(low, 5, BOX, NONE, NONE, BOX, false);
        int lowType = x.of(low, 0, 0);
        check.due("of low", x.members(lowType, 5), (1 << object) + (1 << over));
        check.due("of low, another NAME", x.members(lowType, 2), 1 << plain);
        check.due("of low, none", x.members(lowType, 3), 0);
        check.due("of top", x.members(x.of(top, ANY, 0), 5), (1 << object) + (1 << get));
        check.due("of OBJECT", x.members(OBJECT, 5), 1 << object);
        for (int type : new int[] {INT, NULL, BOX, VARIABLE, x.array(lowType), element}) {
            check.due("of " + type, x.members(type, 5), 1 << object);
        }
        x.bound(top, 0, x.of(top, exact(element), 0));
        check.due("of a PARAMETER with a BOUND", x.members(element, 5), (1 << object) + (1 << get));
        for (int none : new int[] {-1, x.many(1), MOST, LEAST}) {
            check.bounds("members(" + none + ", 0)", x, () -> x.members(none, 0));
            check.bounds("members(" + none + ", 8) is refused for the type first", x, () -> x.members(none, 8));
        }
        for (int wrong : new int[] {-1, 8, MOST, LEAST}) {
            check.argument("members(2, " + wrong + ")", x, () -> x.members(OBJECT, wrong));
        }
    }

    // ---- promise 17

    private void callInPhases() {
        BoundWright x = new BoundWright();
        int list = x.kind(NEITHER, NONE, false);
        int element = x.parameter(list, 0);
        int ofObject = plainMethod(x, 0, 0, OBJECT, NONE);
        int ofBox = plainMethod(x, 0, 0, BOX, NONE);
        called("BOX", x, OBJECT, 0, given(BOX), ofBox, 1, 1, 50);
        called("OBJECT", x, OBJECT, 0, given(OBJECT), ofObject, 1, 1, 50);
        called("NULL", x, OBJECT, 0, given(NULL), ofBox, 1, 1, 50);
        called("INT is BOX in phase 2", x, OBJECT, 0, given(INT), ofBox, 2, 1, 50);
        called("a PARAMETER", x, OBJECT, 0, given(element), ofObject, 1, 1, 50);
        called("no such NAME", x, OBJECT, 1, given(BOX), NONE);
        called("too few", x, OBJECT, 0, given(), NONE);
        called("too many", x, OBJECT, 0, given(BOX, BOX), NONE);
        int ofInt = plainMethod(x, 0, 0, INT, NONE);
        called("INT in phase 1", x, OBJECT, 0, given(INT), ofInt, 1, 1, 50);
        called("BOX still", x, OBJECT, 0, given(BOX), ofBox, 1, 1, 50);
        int onlyInt = plainMethod(x, 0, 2, INT, OBJECT);
        called("BOX for INT in phase 2", x, OBJECT, 2, given(BOX, INT), onlyInt, 2, 1, 50);
        called("NULL for INT never", x, OBJECT, 2, given(NULL, INT), NONE);
        called("OBJECT for INT never", x, OBJECT, 2, given(OBJECT, INT), NONE);
        called("a PARAMETER of OBJECT for INT never", x, OBJECT, 2, given(element, INT), NONE);
        x.bound(list, 0, BOX);
        called("a PARAMETER of BOX for INT", x, OBJECT, 2, given(element, INT), onlyInt, 2, 1, 50);
        called("INT and OBJECT in phase 1", x, OBJECT, 2, given(INT, OBJECT), onlyInt, 1, 1, 50);
        int onArray = x.array(INT);
        int lowType = x.of(list, ANY, 0);
        for (int type : new int[] {INT, NULL, BOX, VARIABLE, onArray, lowType, element}) {
            called("on " + type, x, type, 0, given(BOX), ofBox, 1, 1, 50);
        }
        int none = x.method(0, 3, NONE, NONE, NONE, onArray, false);
        called("nothing given", x, OBJECT, 3, given(), none, 1, 22, 50);
        plainMethod(x, 0, 4, x.array(INT), NONE);
        called("an ARRAY of BOX for one of INT never", x, OBJECT, 4, given(x.array(BOX)), NONE);
    }

    private void callOfMany() {
        BoundWright x = new BoundWright();
        int boxes = x.array(BOX);
        int ints = x.array(INT);
        int many = x.method(0, 0, boxes, NONE, NONE, INT, true);
        called("the ARRAY itself", x, OBJECT, 0, given(boxes), many, 1, 1, 50);
        called("none", x, OBJECT, 0, given(), many, 3, 1, 50);
        called("one", x, OBJECT, 0, given(BOX), many, 3, 1, 50);
        called("three", x, OBJECT, 0, given(BOX, INT, NULL), many, 3, 1, 50);
        called("one that is not", x, OBJECT, 0, given(BOX, OBJECT), NONE);
        called("NULL is one in phase 1", x, OBJECT, 0, given(NULL), many, 1, 1, 50);
        int two = x.method(0, 1, OBJECT, ints, NONE, INT, true);
        called("just the others", x, OBJECT, 1, given(BOX), two, 3, 1, 50);
        called("with one", x, OBJECT, 1, given(BOX, BOX), two, 3, 1, 50);
        called("with two", x, OBJECT, 1, given(INT, BOX, INT), two, 3, 1, 50);
        called("with NULL for INT", x, OBJECT, 1, given(BOX, INT, NULL), NONE);
        called("less than the others", x, OBJECT, 1, given(), NONE);
        called("an ARRAY and INT in phase 2", x, OBJECT, 1, given(INT, ints), two, 2, 1, 50);
        x.method(0, 2, boxes, NONE, NONE, INT, false);
        called("not MANY", x, OBJECT, 2, given(BOX), NONE);
        int plain = plainMethod(x, 0, 0, OBJECT, NONE);
        called("phase 1 comes first", x, OBJECT, 0, given(BOX), plain, 1, 1, 50);
        called("phase 2 comes first", x, OBJECT, 0, given(INT), plain, 2, 1, 50);
        called("phase 1, more special", x, OBJECT, 0, given(boxes), many, 1, 1, 50);
    }

    private void callOfMostSpecial() {
        BoundWright x = new BoundWright();
        int boxes = x.array(BOX);
        int objects = x.array(OBJECT);
        plainMethod(x, 0, 0, BOX, OBJECT);
        plainMethod(x, 0, 0, OBJECT, BOX);
        called("neither is", x, OBJECT, 0, given(BOX, BOX), AMBIGUOUS);
        called("neither is in phase 2", x, OBJECT, 0, given(INT, INT), AMBIGUOUS);
        called("one suits", x, OBJECT, 0, given(BOX, OBJECT), 0, 1, 1, 50);
        int both = plainMethod(x, 0, 0, BOX, BOX);
        called("one is more special than both", x, OBJECT, 0, given(BOX, BOX), both, 1, 1, 50);
        plainMethod(x, 0, 0, BOX, BOX);
        called("two with the same FORMALS", x, OBJECT, 0, given(BOX, BOX), AMBIGUOUS);
        int first = x.method(0, 1, objects, NONE, NONE, INT, true);
        int second = x.method(0, 1, boxes, NONE, NONE, INT, true);
        called("of MANY", x, OBJECT, 1, given(BOX, BOX), second, 3, 1, 50);
        called("of MANY, one suits", x, OBJECT, 1, given(BOX, OBJECT), first, 3, 1, 50);
        called("of MANY with nothing given", x, OBJECT, 1, given(), AMBIGUOUS);
        int third = x.method(0, 1, BOX, objects, NONE, INT, true);
        called("place by place, the second one", x, OBJECT, 1, given(BOX, BOX), second, 3, 1, 50);
        called("as many as are given", x, OBJECT, 1, given(BOX), AMBIGUOUS);
        called("as many as are given, one more special", x, OBJECT, 1, given(BOX, OBJECT), third, 3, 1, 50);
        int low = x.kind(NONE, NONE, false);
        x.method(0, 2, BOX, NONE, NONE, INT, false);
        int over = x.method(low, 2, BOX, NONE, NONE, OBJECT, false);
        called("what is overridden is no MEMBER", x, x.of(low, 0, 0), 2, given(BOX), over, 1, 50, 50);
    }

    private void callOnArguments() {
        BoundWright x = new BoundWright();
        int list = x.kind(NEITHER, NONE, false);
        int low = x.kind(NONE, NONE, false);
        int element = x.parameter(list, 0);
        int array = x.array(element);
        int get = x.method(list, 0, NONE, NONE, NONE, element, false);
        int put = x.method(list, 1, element, NONE, NONE, array, false);
        int many = x.method(list, 2, array, NONE, NONE, x.of(list, in(element), 0), true);
        int ofBox = x.of(list, exact(BOX), 0);
        int outBox = x.of(list, out(BOX), 0);
        int inBox = x.of(list, in(BOX), 0);
        int any = x.of(list, ANY, 0);
        called("EXACT", x, ofBox, 0, given(), get, 1, 51, 50, 1);
        called("OUT", x, outBox, 0, given(), get, 1, 51, 50, 1);
        called("IN", x, inBox, 0, given(), get, 1, 50, 50);
        called("ANY", x, any, 0, given(), get, 1, 50, 50);
        called("put, EXACT", x, ofBox, 1, given(BOX), put, 1, 17 * 51 + 5, 50, 1001);
        called("put, EXACT, what is none", x, ofBox, 1, given(OBJECT), NONE);
        called("put, INT", x, ofBox, 1, given(INT), put, 2, 17 * 51 + 5, 50, 1001);
        called("put, ANY", x, any, 1, given(OBJECT), put, 1, 17 * 50 + 5, 50);
        called("put, OUT", x, outBox, 1, given(OBJECT), NONE);
        called("MANY, EXACT", x, ofBox, 2, given(INT, BOX), many, 3, 52 * 31 + 8 + 3 * 51 + 2, 50);
        called("MANY, ANY: another MODE is kept", x, any, 2, given(OBJECT), many, 3, 52 * 31 + 8 + 3 * 50 + 2, 50);
        x.extend(low, ofBox);
        called("as the class above", x, x.of(low, 0, 0), 0, given(), get, 1, 51, 50, 1);
        x.bound(list, 0, x.of(list, exact(element), 0));
        called("on a PARAMETER", x, element, 0, given(), get, 1, 10 + 2 * list, 50);
        called("the BOUND is ERASED", x, ofBox, 0, given(), get, 1, 51, 50, 1);
        called("on ANY: what is OBJECT now", x, any, 0, given(), get, 1, 50, 50, 0);
    }

    private void callOfVariable() {
        BoundWright x = new BoundWright();
        int top = x.kind(NONE, NONE, false);
        int left = x.kind(NONE, NONE, false);
        int right = x.kind(NONE, NONE, false);
        int topType = x.of(top, 0, 0);
        int leftType = x.of(left, 0, 0);
        int rightType = x.of(right, 0, 0);
        x.extend(left, topType);
        x.extend(right, topType);
        int one = x.method(0, 0, VARIABLE, NONE, NONE, VARIABLE, false);
        int two = x.method(0, 1, VARIABLE, VARIABLE, NONE, x.array(VARIABLE), false);
        int three = x.method(0, 2, VARIABLE, BOX, VARIABLE, INT, false);
        called("BOX", x, OBJECT, 0, given(BOX), one, 1, 51, 51, 1);
        called("OBJECT", x, OBJECT, 0, given(OBJECT), one, 1, 50, 50);
        called("INT is BOX", x, OBJECT, 0, given(INT), one, 2, 51, 51, 1);
        called("NULL", x, OBJECT, 0, given(NULL), one, 1, 2, 2, 101);
        called("VARIABLE", x, OBJECT, 0, given(VARIABLE), one, 1, 3, 3);
        called("the join", x, OBJECT, 1, given(leftType, rightType), two, 1, 17 * (50 + top) + 5, 50 + top, 1000 + top);
        called("the same", x, OBJECT, 1, given(leftType, leftType), two, 1, 17 * (50 + left) + 5, 50 + left,
                1000 + left);
        called("NULL and one", x, OBJECT, 1, given(NULL, leftType), two, 1, 17 * (50 + left) + 5, 50 + left,
                1000 + left);
        called("the join with OBJECT", x, OBJECT, 1, given(leftType, BOX), two, 1, 17 * 50 + 5, 50);
        called("INT and OBJECT only later", x, OBJECT, 1, given(INT, OBJECT), two, 2, 17 * 50 + 5, 50);
        called("INT and INT", x, OBJECT, 1, given(INT, INT), two, 2, 17 * 51 + 5, 51, 1001);
        called("INT and NULL", x, OBJECT, 1, given(INT, NULL), two, 2, 17 * 51 + 5, 51, 1001);
        called("of three places two", x, OBJECT, 2, given(leftType, INT, rightType), three, 2, 1, 50 + top);
        called("not of what does not suit", x, OBJECT, 2, given(leftType, leftType, rightType), NONE);
        int ints = x.array(INT);
        called("an ARRAY of INT", x, OBJECT, 0, given(ints), one, 1, 22, 22, 1100);
    }

    private void callOfVariableInside() {
        BoundWright x = new BoundWright();
        int list = x.kind(NEITHER, NONE, false);
        int ofVariable = x.of(list, exact(VARIABLE), 0);
        int inVariable = x.of(list, in(VARIABLE), 0);
        int ofObject = x.of(list, exact(OBJECT), 0);
        int ofBox = x.of(list, exact(BOX), 0);
        int inside = x.method(0, 0, ofVariable, NONE, NONE, VARIABLE, false);
        int beside = x.method(0, 1, VARIABLE, ofVariable, NONE, inVariable, false);
        int never = x.method(0, 2, ofVariable, NONE, NONE, VARIABLE, false);
        int free = x.method(0, 3, NONE, NONE, NONE, ofVariable, false);
        called("just OBJECT inside", x, OBJECT, 0, given(ofObject), inside, 1, 50, 50);
        called("no other one", x, OBJECT, 0, given(ofBox), NONE);
        called("beside one that is just it", x, OBJECT, 1, given(BOX, ofBox), beside, 1,
                52 * 31 + 8 + 3 * 51 + 2, 51);
        called("beside one that is another", x, OBJECT, 1, given(OBJECT, ofBox), NONE);
        called("beside INT", x, OBJECT, 1, given(INT, ofBox), beside, 2, 52 * 31 + 8 + 3 * 51 + 2, 51);
        called("beside NULL", x, OBJECT, 1, given(NULL, NULL), beside, 1, 52 * 31 + 8 + 3 * 2 + 2, 2);
        called("without FORMALS", x, OBJECT, 3, given(), free, 1, 52 * 31 + 8 + 3 * 50, 50);
        x.variable(never, BOX);
        x.variable(free, BOX);
        called("OBJECT is not below the BOUND", x, OBJECT, 2, given(ofObject), NONE);
        called("not of BOX, too", x, OBJECT, 2, given(ofBox), NONE);
        called("without FORMALS, too", x, OBJECT, 3, given(), NONE);
    }

    private void callOfVariableOfMany() {
        BoundWright x = new BoundWright();
        int array = x.array(VARIABLE);
        int boxes = x.array(BOX);
        int many = x.method(0, 0, array, NONE, NONE, VARIABLE, true);
        int more = x.method(0, 1, VARIABLE, array, NONE, VARIABLE, true);
        called("an ARRAY in phase 1: no FORMAL is just it", x, OBJECT, 0, given(boxes), many, 1, 50, 50);
        called("one", x, OBJECT, 0, given(BOX), many, 3, 51, 51, 1);
        called("INT, too", x, OBJECT, 0, given(BOX, INT, NULL), many, 3, 51, 51, 1);
        called("nothing", x, OBJECT, 0, given(), many, 3, 50, 50);
        called("an ARRAY of INT", x, OBJECT, 0, given(x.array(INT)), many, 3, 22, 22, 1100);
        called("the first and the rest", x, OBJECT, 1, given(INT, BOX, BOX), more, 3, 51, 51, 1);
        called("the first alone", x, OBJECT, 1, given(BOX), more, 3, 51, 51, 1);
        called("the first and an ARRAY", x, OBJECT, 1, given(OBJECT, boxes), more, 1, 50, 50);
        called("the first BOX and an ARRAY", x, OBJECT, 1, given(BOX, boxes), more, 1, 51, 51, 1);
        x.variable(many, BOX);
        called("nothing is OBJECT, not below the BOUND", x, OBJECT, 0, given(), NONE);
        called("one below the BOUND", x, OBJECT, 0, given(INT), many, 3, 51, 51);
        called("an ARRAY is not below the BOUND", x, OBJECT, 0, given(boxes), NONE);
    }

    private void callWithBoundOfVariable() {
        BoundWright x = new BoundWright();
        int low = x.kind(NONE, NONE, false);
        int lowType = x.of(low, 0, 0);
        int generic = x.method(0, 0, VARIABLE, NONE, NONE, VARIABLE, false);
        int plain = x.method(0, 0, BOX, NONE, NONE, BOX, false);
        called("BOX is more special than OBJECT", x, OBJECT, 0, given(BOX), plain, 1, 51, 50);
        called("another one", x, OBJECT, 0, given(lowType), generic, 1, 50 + low, 50 + low, low);
        x.variable(generic, BOX);
        called("the BOUND is the same", x, OBJECT, 0, given(BOX), AMBIGUOUS);
        called("not below the BOUND", x, OBJECT, 0, given(lowType), NONE);
        int objects = x.method(0, 1, OBJECT, NONE, NONE, OBJECT, false);
        int bounded = x.method(0, 1, VARIABLE, NONE, NONE, VARIABLE, false);
        x.variable(bounded, lowType);
        called("by its BOUND it is more special", x, OBJECT, 1, given(lowType), bounded, 1, 50 + low, 50 + low);
        called("it does not suit", x, OBJECT, 1, given(BOX), objects, 1, 50, 50);
        called("NULL is below the BOUND", x, OBJECT, 1, given(NULL), bounded, 1, 2, 2, 101);
    }

    private void callOnVariable() {
        BoundWright x = new BoundWright();
        int list = x.kind(NEITHER, NONE, false);
        int element = x.parameter(list, 0);
        int ofVariable = x.of(list, exact(VARIABLE), 0);
        int put = x.method(list, 0, element, NONE, NONE, element, false);
        called("VARIABLE as the ARGUMENT is that of the METHOD", x, ofVariable, 0, given(BOX), put, 1, 51, 51, 1);
        called("INT is BOX then", x, ofVariable, 0, given(INT), put, 2, 51, 51, 1);
        called("VARIABLE is given", x, ofVariable, 0, given(VARIABLE), put, 1, 3, 3);
    }

    private void callRefuses() {
        BoundWright x = new BoundWright();
        x.method(0, 0, OBJECT, NONE, NONE, OBJECT, false);
        for (int none : new int[] {-1, 5, MOST, LEAST}) {
            check.bounds("on " + none, x, () -> x.call(none, 0, BOX, NONE, NONE, 0));
            check.bounds("on " + none + ", first", x, () -> x.call(none, 8, NONE, BOX, NONE, 9));
        }
        for (int none : new int[] {-2, 5, MOST, LEAST}) {
            check.bounds("first " + none, x, () -> x.call(OBJECT, 0, none, NONE, NONE, 0));
            check.bounds("second " + none, x, () -> x.call(OBJECT, 0, BOX, none, NONE, 0));
            check.bounds("third " + none, x, () -> x.call(OBJECT, 0, BOX, BOX, none, 0));
            check.bounds("third " + none + " behind NONE, first", x, () -> x.call(OBJECT, 8, NONE, NONE, none, 9));
        }
        for (int wrong : new int[] {-1, 8, MOST, LEAST}) {
            check.argument("name " + wrong, x, () -> x.call(OBJECT, wrong, BOX, NONE, NONE, 0));
        }
        for (int wrong : new int[] {-1, 5, MOST, LEAST}) {
            check.argument("what " + wrong, x, () -> x.call(OBJECT, 0, BOX, NONE, NONE, wrong));
            check.argument("what " + wrong + " where none suits", x, () -> x.call(OBJECT, 1, BOX, NONE, NONE, wrong));
        }
        check.argument("second behind NONE", x, () -> x.call(OBJECT, 0, NONE, BOX, NONE, 0));
        check.argument("third behind NONE", x, () -> x.call(OBJECT, 0, BOX, NONE, BOX, 0));
        check.argument("third behind two", x, () -> x.call(OBJECT, 0, NONE, NONE, BOX, 0));
    }
}
