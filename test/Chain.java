/**
 * Classes A0 to A7: A0 is below N of A1, which is IN, if A1 is below N of A2, and so on, each 1 deeper; at last,
 * 7 deep, A7 is asked about, which extends L of BOX.
 */
final class Chain {
    final BoundWright x = new BoundWright();
    final int n = x.kind(Promises.IN, Promises.NONE, false);
    final int[] kinds = new int[8];
    final int[] types = new int[8];
    final int[] ofTypes = new int[8];

    /** From the class before skipped, none is told to extend anything: what its test wants. */
    Chain(int endArgument, int varianceOfEnd, int skipped) {
        int l = x.kind(varianceOfEnd, Promises.NONE, false);
        for (int k = 0; k < 8; k++) {
            kinds[k] = x.kind(Promises.NONE, Promises.NONE, false);
            types[k] = x.of(kinds[k], 0, 0);
            ofTypes[k] = k == 0 ? Promises.NONE : x.of(n, Promises.exact(types[k]), 0);
        }
        for (int k = skipped; k < 6; k++) {
            x.extend(kinds[k], x.of(n, Promises.exact(ofTypes[k + 2]), 0));
        }
        x.extend(kinds[6], x.of(n, Promises.exact(x.of(l, endArgument, 0)), 0));
        x.extend(kinds[7], x.of(l, Promises.exact(Promises.BOX), 0));
    }

    /** One in which A1 is below N of A2, but, being looked at down to 7 deep, not if that is asked 1 deep. */
    static Chain justBelow() {
        return new Chain(Promises.exact(Promises.BOX), Promises.OUT, 1);
    }

    /** One in which, being 8 deep at its end, A0 is not below N of A1. */
    static Chain justNotBelow() {
        return new Chain(Promises.exact(Promises.BOX), Promises.OUT, 0);
    }
}
