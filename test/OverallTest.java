/** Promises 19 to 24: faults, counts, what would be, and the checksum. */
final class OverallTest extends Promises {
    public static void main(String[] arguments) {
        OverallTest test = new OverallTest();
        test.faultOfTwoWays();
        test.faultOfExtended();
        test.faultOfVariance();
        test.faultOfBounds();
        test.faultOfClashes();
        test.faultOfResults();
        test.faultsInOrder();
        test.faultRefuses();
        test.manyCounts();
        test.meanMembers();
        test.pairsWith();
        test.pairsWithRefuses();
        test.faultsWithout();
        test.digestSums();
        test.askingChangesNothing();
        test.check.end();
    }

    // ---- promise 19

    private void faultOfTwoWays() {
        BoundWright x = new BoundWright();
        int list = x.kind(NEITHER, NONE, false);
        int one = x.kind(NEITHER, NONE, false);
        int other = x.kind(NONE, NONE, false);
        int both = x.kind(NONE, NONE, false);
        int lower = x.kind(NEITHER, NONE, false);
        int ones = x.parameter(one, 0);
        x.extend(one, x.of(list, exact(ones), 0));
        x.extend(other, x.of(list, exact(BOX), 0));
        x.extend(both, x.of(one, exact(BOX), 0));
        x.extend(both, x.of(other, 0, 0));
        faults("two ways with the same", x);
        int lowers = x.parameter(lower, 0);
        x.extend(lower, x.of(one, exact(lowers), 0));
        faults("one way", x);
        x.extend(lower, x.of(other, 0, 0));
        faults("two ways, once", x, 1, lower, NONE);
        int last = x.kind(NONE, NONE, false);
        int same = x.kind(NONE, NONE, false);
        int plain = x.kind(NONE, NONE, false);
        x.extend(last, x.of(lower, exact(OBJECT), 0));
        x.extend(same, x.of(lower, exact(BOX), 0));
        x.extend(plain, x.of(lower, ANY, 0));
        faults("below it, but not where they are the same", x, 1, lower, NONE, 1, last, NONE, 1, plain, NONE);
        int direct = x.kind(NEITHER, NONE, false);
        x.extend(direct, x.of(list, exact(x.parameter(direct, 0)), 0));
        x.extend(direct, x.of(other, 0, 0));
        check.due("the second way is longer", x.ofKind(direct, 7), 1);
        int outOfBox = x.kind(NONE, NONE, false);
        x.extend(outOfBox, x.of(list, 3 * BOX + OUT, 0));
        x.extend(outOfBox, x.of(other, 0, 0));
        check.due("another MODE is not the same", x.ofKind(outOfBox, 7), 1);
    }

    private void faultOfExtended() {
        BoundWright x = new BoundWright();
        int boxes = x.kind(NEITHER, NONE, false);
        int more = x.kind(NEITHER, NEITHER, false);
        int low = x.kind(NEITHER, NONE, false);
        x.bound(boxes, 0, BOX);
        x.bound(more, 1, BOX);
        int parameter = x.parameter(low, 0);
        x.extend(low, x.of(boxes, exact(parameter), 0));
        faults("a PARAMETER of OBJECT", x, 2, low, NONE);
        x.extend(low, x.of(more, ANY, exact(OBJECT)));
        faults("one for each", x, 2, low, NONE, 2, low, NONE);
        x.bound(low, 0, BOX);
        faults("a PARAMETER of BOX", x, 2, low, NONE);
        x.bound(more, 1, OBJECT);
        faults("none", x);
    }

    private void faultOfVariance() {
        BoundWright x = new BoundWright();
        int source = x.kind(OUT, IN, false);
        int plain = x.kind(NEITHER, NONE, false);
        int outs = x.parameter(source, 0);
        int ins = x.parameter(source, 1);
        int plains = x.parameter(plain, 0);
        method(x, source, 0, ins, NONE, outs);
        method(x, source, 1, x.array(outs), NONE, x.array(ins));
        method(x, plain, 0, plains, NONE, plains);
        faults("as they should be", x);
        int formal = method(x, source, 2, INT, outs, INT);
        faults("a FORMAL that is OUT", x, 3, source, formal);
        int result = method(x, source, 3, NONE, NONE, ins);
        int both = x.method(source, 4, outs, outs, outs, ins, false);
        faults("a RESULT that is IN, and both, once", x, 3, source, formal, 3, source, result, 3, source, both);
        method(x, source, 5, x.of(plain, exact(outs), 0), NONE, x.of(plain, in(ins), 0));
        check.due("just a PARAMETER counts", x.many(3), 3);
    }

    private void faultOfBounds() {
        BoundWright x = new BoundWright();
        int boxes = x.kind(NEITHER, NONE, false);
        x.bound(boxes, 0, BOX);
        int bad = x.of(boxes, exact(OBJECT), 0);
        int good = x.of(boxes, exact(BOX), 0);
        int variables = x.of(boxes, exact(VARIABLE), 0);
        method(x, 0, 0, good, NONE, good);
        int first = method(x, 0, 1, bad, NONE, good);
        int second = x.method(1, 2, good, good, x.array(bad), bad, true);
        int third = method(x, boxes, 3, NONE, NONE, bad);
        int fourth = method(x, boxes, 4, variables, NONE, INT);
        x.variable(fourth, BOX);
        faults("FORMALS and RESULTS", x, 6, 0, first, 6, 1, second, 6, boxes, third, 6, boxes, fourth);
    }

    private void faultOfClashes() {
        BoundWright x = new BoundWright();
        int list = x.kind(NEITHER, NONE, false);
        int low = x.kind(NONE, NONE, false);
        int element = x.parameter(list, 0);
        int any = x.of(list, ANY, 0);
        int ofBox = x.of(list, exact(BOX), 0);
        int plain = method(x, list, 0, any, element, INT);
        int clash = method(x, list, 0, ofBox, OBJECT, OBJECT);
        faults("the greater number alone", x, 4, list, clash);
        int third = method(x, list, 0, ofBox, VARIABLE, INT);
        faults("with two, once", x, 4, list, clash, 4, list, third);
        x.variable(third, BOX);
        faults("VARIABLE by its BOUND", x, 4, list, clash);
        method(x, list, 1, ofBox, OBJECT, INT);
        method(x, list, 0, ofBox, NONE, INT);
        method(x, list, 0, ofBox, INT, INT);
        faults("another NAME, less FORMALS, other ones", x, 4, list, clash);
        x.extend(low, ofBox);
        int over = method(x, low, 0, any, BOX, INT);
        check.due("it overrides", x.ofMethod(over, 3), 1 << plain);
        faults("it clashes with VARIABLE of BOX above", x, 4, list, clash, 4, low, over);
        x.variable(third, OBJECT);
        faults("it does not clash with those that it is not ERASED to", x, 4, list, clash, 4, list, third);
        int under = method(x, low, 0, ofBox, OBJECT, OBJECT);
        check.due("it overrides what is the same", x.ofMethod(under, 3), 1 << clash);
        faults("and clashes with others above", x, 4, list, clash, 4, list, third, 4, low, under);
    }

    private void faultOfResults() {
        BoundWright x = new BoundWright();
        int list = x.kind(NEITHER, NONE, false);
        int other = x.kind(NONE, NONE, false);
        int low = x.kind(NONE, NONE, false);
        int element = x.parameter(list, 0);
        method(x, list, 0, NONE, NONE, element);
        method(x, other, 0, NONE, NONE, BOX);
        method(x, 0, 1, NONE, NONE, INT);
        method(x, 0, 2, VARIABLE, NONE, VARIABLE);
        x.extend(low, x.of(list, exact(BOX), 0));
        x.extend(low, x.of(other, 0, 0));
        int good = method(x, low, 0, NONE, NONE, BOX);
        int ints = method(x, low, 1, NONE, NONE, INT);
        method(x, low, 2, VARIABLE, NONE, VARIABLE);
        faults("BELOW it, as it is PUT in", x);
        int bad = method(x, low, 0, NONE, NONE, OBJECT);
        faults("not, of two, once, and a clash", x, 4, low, bad, 5, low, bad);
        int box = method(x, other, 1, NONE, NONE, BOX);
        int object = method(x, other, 2, VARIABLE, NONE, OBJECT);
        faults("INT and VARIABLE", x, 5, other, box, 5, other, object, 5, low, ints, 4, low, bad, 5, low, bad);
        check.due("the good one is there", x.ofMethod(good, 0), low);
    }

    private void faultsInOrder() {
        BoundWright x = new BoundWright();
        int boxes = x.kind(OUT, NONE, false);
        int low = x.kind(OUT, NONE, false);
        int side = x.kind(NONE, NONE, false);
        x.bound(boxes, 0, BOX);
        int lows = x.parameter(low, 0);
        int bad = x.of(boxes, exact(OBJECT), 0);
        method(x, 0, 0, OBJECT, bad, BOX);
        int first = method(x, low, 0, lows, bad, OBJECT);
        int second = method(x, low, 0, OBJECT, bad, OBJECT);
        faults("before", x, 6, 0, 0, 3, low, first, 6, low, first, 4, low, first, 6, low, second, 4, low, second,
                5, low, second);
        x.extend(side, bad);
        x.extend(low, x.of(boxes, exact(lows), 0));
        int under = x.kind(NONE, NONE, false);
        x.extend(under, x.of(low, exact(BOX), 0));
        x.extend(under, x.of(side, 0, 0));
        x.extend(under, bad);
        faults("CLASS by CLASS", x, 6, 0, 0, 2, low, NONE, 3, low, first, 6, low, first, 4, low, first,
                6, low, second, 4, low, second, 5, low, second, 2, side, NONE, 1, under, NONE, 2, under, NONE);
        check.due("of low", x.ofKind(low, 7), 7);
        check.due("of side", x.ofKind(side, 7), 1);
        check.due("of under", x.ofKind(under, 7), 2);
        check.due("of OBJECT", x.ofKind(0, 7), 1);
    }

    private void faultRefuses() {
        BoundWright x = new BoundWright();
        check.bounds("none is there", x, () -> x.fault(0, 0));
        int boxes = x.kind(OUT, NONE, false);
        method(x, boxes, 0, x.parameter(boxes, 0), NONE, INT);
        check.due("one is there", x.fault(0, 0), 3);
        for (int none : new int[] {-1, 1, 135, 136, 137, MOST, LEAST}) {
            check.bounds("fault(" + none + ", 0)", x, () -> x.fault(none, 0));
            check.bounds("fault(" + none + ", 3) is refused for the number first", x, () -> x.fault(none, 3));
        }
        for (int wrong : new int[] {-1, 3, MOST, LEAST}) {
            check.argument("fault(0, " + wrong + ")", x, () -> x.fault(0, wrong));
        }
    }

    // ---- promises 20 and 21

    private void manyCounts() {
        BoundWright x = new BoundWright();
        int list = x.kind(OUT, NONE, true);
        int low = x.kind(NONE, NONE, false);
        x.kind(NONE, NONE, true);
        int element = x.parameter(list, 0);
        int ofBox = x.of(list, exact(BOX), 0);
        x.extend(low, ofBox);
        method(x, list, 0, element, NONE, element);
        method(x, low, 0, BOX, NONE, BOX);
        int[] due = {5, 7, 2, 1, 1, 2, 9};
        for (int what = 0; what < due.length; what++) {
            check.due("many(" + what + ")", x.many(what), due[what]);
        }
        int lowType = x.of(low, 0, 0);
        check.due("and low below its list, OBJECT, above NULL", x.many(6), 9 + 3);
        check.due("isBelow", x.isBelow(lowType, ofBox), true);
        for (int wrong : new int[] {-1, 7, MOST, LEAST}) {
            check.argument("many(" + wrong + ")", x, () -> x.many(wrong));
        }
    }

    private void meanMembers() {
        BoundWright x = new BoundWright();
        mean("none", x, 0.0);
        method(x, 1, 0, NONE, NONE, INT);
        mean("one of BOX", x, 1.0 / 2);
        int list = x.kind(NEITHER, NONE, false);
        mean("of three classes", x, 1.0 / 3);
        method(x, 0, 0, NONE, NONE, INT);
        mean("one of OBJECT, that BOX overrides", x, 3.0 / 3);
        method(x, list, 0, x.parameter(list, 0), NONE, INT);
        mean("one more of list", x, 4.0 / 3);
        x.kind(NONE, NONE, false);
        mean("of four", x, 5.0 / 4);
    }

    // ---- promise 22

    private void pairsWith() {
        BoundWright x = new BoundWright();
        int list = x.kind(NEITHER, NONE, false);
        int pair = x.kind(IN, OUT, false);
        x.of(list, exact(BOX), 0);
        x.of(list, exact(OBJECT), 0);
        x.of(pair, exact(BOX), exact(BOX));
        x.of(pair, exact(OBJECT), exact(BOX));
        check.due("as it is", x.many(6), 5 + 4 + 4 + 1);
        check.due("pairsWith(list, 0, NEITHER)", x.pairsWith(list, 0, NEITHER), 14);
        check.due("pairsWith(list, 0, OUT)", x.pairsWith(list, 0, OUT), 15);
        check.due("pairsWith(list, 0, IN)", x.pairsWith(list, 0, IN), 15);
        check.due("pairsWith(pair, 0, NEITHER)", x.pairsWith(pair, 0, NEITHER), 13);
        check.due("pairsWith(pair, 0, OUT)", x.pairsWith(pair, 0, OUT), 14);
        check.due("pairsWith(pair, 1, IN)", x.pairsWith(pair, 1, IN), 14);
        check.due("nothing is changed", x.many(6), 14);
        BoundWright y = new BoundWright();
        int one = y.kind(OUT, NONE, false);
        y.of(one, exact(BOX), 0);
        y.of(one, exact(OBJECT), 0);
        check.due("less than it is", y.pairsWith(one, 0, NEITHER), y.many(6) - 1);
        check.due("still below", y.isBelow(5, 6), true);
    }

    private void pairsWithRefuses() {
        BoundWright x = new BoundWright();
        int list = x.kind(NEITHER, NONE, false);
        int pair = x.kind(NEITHER, OUT, false);
        int plain = x.kind(NONE, NONE, false);
        for (int none : new int[] {-1, 5, 14, MOST, LEAST}) {
            check.bounds("pairsWith(" + none + ", 0, 0)", x, () -> x.pairsWith(none, 0, 0));
            check.bounds("pairsWith(" + none + ", 0, 3), first", x, () -> x.pairsWith(none, 0, 3));
        }
        for (int none : new int[] {-1, 2, MOST, LEAST}) {
            check.bounds("pairsWith(pair, " + none + ", 0)", x, () -> x.pairsWith(pair, none, 0));
            check.bounds("pairsWith(pair, " + none + ", 3), first", x, () -> x.pairsWith(pair, none, 3));
        }
        check.bounds("pairsWith(list, 1, 0)", x, () -> x.pairsWith(list, 1, 0));
        check.bounds("pairsWith(plain, 0, 0)", x, () -> x.pairsWith(plain, 0, 0));
        check.bounds("pairsWith(0, 0, 0)", x, () -> x.pairsWith(0, 0, 0));
        for (int wrong : new int[] {-1, 3, MOST, LEAST}) {
            check.argument("pairsWith(list, 0, " + wrong + ")", x, () -> x.pairsWith(list, 0, wrong));
        }
    }

    // ---- promise 23

    private void faultsWithout() {
        BoundWright x = new BoundWright();
        int list = x.kind(OUT, NONE, false);
        int low = x.kind(NONE, NONE, false);
        int element = x.parameter(list, 0);
        int plain = method(x, list, 0, OBJECT, NONE, BOX);
        int clash = method(x, list, 0, element, NONE, BOX);
        int third = method(x, list, 0, x.array(element), NONE, INT);
        check.due("3 and 4", x.many(3), 2);
        check.due("without the one that clashes", x.faultsWithout(clash), 0);
        check.due("without that with which it clashes", x.faultsWithout(plain), 1);
        check.due("without another", x.faultsWithout(third), 2);
        x.extend(low, x.of(list, exact(OBJECT), 0));
        int over = method(x, low, 0, OBJECT, NONE, OBJECT);
        check.due("it overrides both", x.ofMethod(over, 3), (1 << plain) + (1 << clash));
        faults("with 5", x, 3, list, clash, 4, list, clash, 5, low, over);
        check.due("5 goes with its own", x.faultsWithout(over), 2);
        check.due("5 stays by the other one", x.faultsWithout(plain), 2);
        check.due("5 stays, 3 and 4 go", x.faultsWithout(clash), 1);
        int again = method(x, low, 0, OBJECT, NONE, BOX);
        faults("with a clash below", x, 3, list, clash, 4, list, clash, 5, low, over, 4, low, again);
        check.due("the smaller number goes, and what clashes with it", x.faultsWithout(over), 2);
        check.due("the greater number goes", x.faultsWithout(again), 3);
        faults("nothing is changed", x, 3, list, clash, 4, list, clash, 5, low, over, 4, low, again);
        check.due("many(2)", x.many(2), 5);
        int single = method(x, 0, 1, NONE, NONE, BOX);
        int worse = method(x, low, 1, NONE, NONE, OBJECT);
        check.due("5 is there", x.many(3), 5);
        check.due("5 goes with what it overrides", x.faultsWithout(single), 4);
        x.method(list, 1, NONE, NONE, NONE, BOX, false);
        check.due("5 stays by another that it overrides", x.faultsWithout(single), 5);
        check.due("the method itself", x.faultsWithout(worse), 4);
        int boxes = x.kind(NEITHER, NONE, false);
        x.bound(boxes, 0, BOX);
        x.extend(boxes, x.of(list, exact(OBJECT), 0));
        int last = x.kind(NONE, NONE, false);
        x.extend(last, x.of(boxes, exact(OBJECT), 0));
        check.due("2 stays", x.faultsWithout(again), 5);
        for (int none : new int[] {-1, 8, 20, MOST, LEAST}) {
            check.bounds("faultsWithout(" + none + ")", x, () -> x.faultsWithout(none));
        }
    }

    // ---- promise 24

    private void digestSums() {
        BoundWright x = new BoundWright();
        check.due("digest() of a new one", x.digest(), Digest.of(x));
        int list = x.kind(OUT, NONE, true);
        int low = x.kind(NEITHER, IN, false);
        int element = x.parameter(list, 0);
        int lows = x.parameter(low, 1);
        x.extend(low, x.of(list, exact(lows), 0));
        x.bound(low, 0, x.of(low, ANY, exact(BOX)));
        check.due("digest() with types", x.digest(), Digest.of(x));
        method(x, list, 0, element, NONE, element);
        int over = method(x, low, 0, lows, NONE, OBJECT);
        x.method(low, 0, x.array(lows), NONE, NONE, VARIABLE, true);
        x.variable(over, BOX);
        check.due("with faults", x.many(3) > 1, true);
        check.due("digest() with methods", x.digest(), Digest.of(x));
        check.due("digest() again", x.digest(), Digest.of(x));
    }

    private void askingChangesNothing() {
        BoundWright x = new BoundWright();
        int list = x.kind(OUT, NONE, false);
        int element = x.parameter(list, 0);
        int of = x.of(list, exact(BOX), 0);
        int other = x.of(list, exact(x.array(BOX)), 0);
        method(x, list, 0, element, NONE, x.of(list, exact(element), 0));
        long before = x.digest();
        check.due("a join of what is not told", x.join(of, other), 52 * 31 + 8 + 3 * 50 + 1);
        check.due("a call with a result that is not told", x.call(other, 0, NONE, NONE, NONE, 2), NONE);
        check.due("a call with a result that is not told, found", x.call(other, 0, x.array(BOX), NONE, NONE, 2),
                x.ofType(other, 2));
        x.as(other, 0);
        x.pairsWith(list, 0, IN);
        x.faultsWithout(0);
        check.due("digest()", x.digest(), before);
        check.due("the next type has the next number", x.of(list, ANY, 0), x.many(1) - 1);
    }
}
