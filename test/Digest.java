import java.math.BigInteger;
import java.util.ArrayList;
import java.util.List;

/** The checksum of promise 24 as the document sums it up, from the answers of the other calls. */
final class Digest {
    private Digest() {
    }

    static long of(BoundWright x) {
        return summed(numbersOf(x));
    }

    /** The numbers of which the digest is made, in their order. */
    private static List<Long> numbersOf(BoundWright x) {
        List<Long> all = new ArrayList<>();
        for (int what = 0; what <= 6; what++) {
            all.add((long) x.many(what));
        }
        for (int kind = 0; kind < x.many(0); kind++) {
            for (int what = 0; what <= 7; what++) {
                all.add((long) x.ofKind(kind, what));
            }
            all.add(x.areAll(Promises.OBJECT, 1 << kind) ? 1L : 0L);
        }
        for (int type = 0; type < x.many(1); type++) {
            for (int what = 0; what <= 5; what++) {
                all.add((long) x.ofType(type, what));
            }
            for (int smaller = 0; smaller < type; smaller++) {
                all.add((long) x.join(type, smaller));
            }
        }
        for (int method = 0; method < x.many(2); method++) {
            for (int what = 0; what <= 5; what++) {
                all.add((long) x.ofMethod(method, what));
            }
            all.add((long) x.faultsWithout(method));
        }
        for (int k = 0; k < x.many(3); k++) {
            for (int what = 0; what <= 2; what++) {
                all.add((long) x.fault(k, what));
            }
        }
        return all;
    }

    /** The checksum without any wrapping around on the way: at the end the lowest 64 bits of a number of any size. */
    static long summed(List<Long> numbers) {
        BigInteger d = BigInteger.valueOf(58134);
        for (long each : numbers) {
            d = d.multiply(BigInteger.valueOf(31)).add(BigInteger.valueOf(each));
        }
        return d.longValue();
    }
}
