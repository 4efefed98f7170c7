import java.util.ArrayList;
import java.util.List;

/**
 * Random runs of calls, always the same ones, on BoundWright and on Model: every answer and every exception has to
 * be the same. A number of runs can be given, and the first seed.
 */
final class DifferenceTest {
    private static final int RUNS = 120;
    private static final int CALLS = 500;
    private static final int SHOWN = 20;

    private interface Ask {
        Object of();
    }

    private final Check check = new Check("DifferenceTest");
    private final List<String> told = new ArrayList<>();
    private long seed;
    private BoundWright x;
    private Model y;
    private int wildness;
    private int typeHunger;

    public static void main(String[] arguments) {
        DifferenceTest test = new DifferenceTest();
        int runs = arguments.length > 0 ? Integer.parseInt(arguments[0]) : RUNS;
        int first = arguments.length > 1 ? Integer.parseInt(arguments[1]) : 1;
        for (int run = first; run < first + runs; run++) {
            if (!test.run(run)) {
                break;
            }
        }
        test.check.end();
    }

    private boolean run(int number) {
        seed = number * 7919L + 12345;
        x = new BoundWright();
        y = new Model();
        told.clear();
        wildness = one(3) == 0 ? 25 : 300;
        typeHunger = 2 + one(6);
        if (one(4) != 0 && !build()) {
            return shown(number);
        }
        for (int calls = 0; calls < CALLS; calls++) {
            if (!step(calls)) {
                return shown(number);
            }
        }
        return same("digest()", () -> x.digest(), () -> y.digest()) || shown(number);
    }

    private boolean shown(int number) {
        System.out.println("DifferenceTest: run " + number + ", after " + told.size() + " calls, the last:");
        told.subList(Math.max(0, told.size() - SHOWN), told.size()).forEach(System.out::println);
        return false;
    }

    // ---- a world in which much goes together

    /** Classes that extend one another with their parameters, bounds, and methods that override. */
    private boolean build() {
        int classes = 4 + one(7);
        for (int each = 0; each < classes; each++) {
            if (!buildKind()) {
                return false;
            }
        }
        int methods = one(19);
        for (int each = 0; each < methods; each++) {
            if (!buildMethod()) {
                return false;
            }
        }
        return same("digest()", () -> x.digest(), () -> y.digest());
    }

    private boolean buildKind() {
        int kind = y.many(0);
        if (!tellKind() || y.many(0) == kind) {
            return true;
        }
        for (int which = 0; which < y.ofKind(kind, 0); which++) {
            int parameter = which;
            if (one(5) != 0 && !same("parameter(" + kind + ", " + parameter + ")",
                    () -> x.parameter(kind, parameter), () -> y.parameter(kind, parameter))) {
                return false;
            }
        }
        int more = one(3) == 0 ? 0 : 1 + one(3);
        for (int each = 0; each < more; each++) {
            int other = 1 + one(kind);
            int type = other == 1 ? 2 : simpleType(other, kind);
            boolean isBound = one(3) == 0;
            int parameter = one(2);
            if (type == -1 ? !told.isEmpty() && lastFailed : !(isBound
                    ? same("bound(" + kind + ", " + parameter + ", " + type + ")",
                    () -> x.bound(kind, parameter, type), () -> y.bound(kind, parameter, type))
                    : same("extend(" + kind + ", " + type + ")",
                    () -> x.extend(kind, type), () -> y.extend(kind, type)))) {
                return false;
            }
        }
        return true;
    }

    private boolean lastFailed;

    /** A type of the class with arguments that are ones of the other class, or closed; -1 if it is refused. */
    private int simpleType(int kind, int user) {
        int first = y.ofKind(kind, 0) > 0 ? simpleArgument(user) : 0;
        int second = y.ofKind(kind, 0) > 1 ? simpleArgument(user) : 0;
        lastFailed = !same("of(" + kind + ", " + first + ", " + second + ")",
                () -> x.of(kind, first, second), () -> y.of(kind, first, second));
        try {
            return lastFailed ? -1 : y.of(kind, first, second);
        } catch (IllegalArgumentException | IllegalStateException refused) {
            return -1;
        }
    }

    private int simpleArgument(int user) {
        for (int tries = 0; tries < 30; tries++) {
            int type = 2 + one(y.many(1) - 2);
            if (y.ofType(type, 0) == 4 && y.isUsableFor(type, user) && one(3) != 0) {
                return 3 * type;
            }
            if (y.ofType(type, 3) == 1 && one(5) == 0) {
                return 3 * type + one(3);
            }
        }
        return -1;
    }

    private int usableType(int kind) {
        for (int tries = 0; tries < 20; tries++) {
            int type = one(y.many(1));
            if (y.isUsableFor(type, kind)) {
                return type;
            }
        }
        return 2;
    }

    private boolean buildMethod() {
        int kind = one(y.many(0));
        int count = one(4);
        int[] formals = new int[3];
        for (int place = 0; place < 3; place++) {
            formals[place] = place >= count ? -1 : one(3) == 0 ? 4 : usableType(kind);
        }
        int name = one(2);
        int result = one(3) == 0 ? 4 : usableType(kind);
        int many = y.many(2);
        for (int tries = 0; tries < 6 && many > 0; tries++) {
            int other = one(many);
            if (y.isAbove(y.ofMethod(other, 0), kind) || y.ofMethod(other, 0) == kind && tries > 3) {
                name = y.ofMethod(other, 1);
                for (int place = 0; place < 3; place++) {
                    formals[place] = y.formalSeen(other, place, kind);
                }
                break;
            }
        }
        int its = name;
        boolean isMany = one(3) != 0 && formals[0] != -1;
        boolean isTold = same("method(" + kind + ", " + its + ", " + formals[0] + ", " + formals[1] + ", " + formals[2]
                + ", " + result + ", " + isMany + ")",
                () -> x.method(kind, its, formals[0], formals[1], formals[2], result, isMany),
                () -> y.method(kind, its, formals[0], formals[1], formals[2], result, isMany));
        int last = y.many(2) - 1;
        int bound = classType();
        return isTold && (one(3) != 0 || same("variable(" + last + ", " + bound + ")",
                () -> x.variable(last, bound), () -> y.variable(last, bound)));
    }

    // ---- numbers

    private int one(int below) {
        seed = seed * 6364136223846793005L + 1442695040888963407L;
        return (int) ((seed >>> 33) % below);
    }

    /** Mostly the number, and now and then one that no one would tell. */
    private int wild(int number) {
        if (one(wildness) != 0) {
            return number;
        }
        int[] all = {-1, -2, -3, 0, 1, 2, 3, 7, 8, 14, 33, 100, Integer.MAX_VALUE, Integer.MIN_VALUE, 1 << 14, -1000};
        return all[one(all.length)];
    }

    private int kind() {
        return wild(one(y.many(0)));
    }

    private int lateKind() {
        return wild(y.many(0) - 1 - one(Math.min(3, y.many(0))));
    }

    private int type() {
        return wild(one(y.many(1)));
    }

    private int classType() {
        for (int tries = 0; tries < 20; tries++) {
            int type = one(y.many(1));
            if (y.ofType(type, 0) == 2 && (type > 3 || one(4) == 0)) {
                return wild(type);
            }
        }
        return type();
    }

    private int argument(int kind, int which) {
        if (kind >= 0 && kind < y.many(0) && which >= y.ofKind(kind, 0)) {
            return wild(0);
        }
        if (one(6) == 0) {
            return wild(-1);
        }
        int mode = one(2) == 0 ? 0 : one(3);
        if (one(3) == 0 && kind >= 0 && kind < y.many(0)) {
            return wild(3 * y.many(1) - 3 + mode);
        }
        return wild(3 * one(y.many(1)) + mode);
    }

    private int formal(int count, int place, int kind) {
        if (place >= count) {
            return wild(-1);
        }
        if (one(4) == 0) {
            return 4;
        }
        return wild(one(3) == 0 ? one(4) : one(y.many(1)));
    }

    private int givenTo(int type, int method, int count, int place) {
        int given = type();
        for (int tries = 0; tries < 12 && !y.maySuit(type, method, place, given); tries++) {
            given = type();
        }
        return place >= count ? wild(-1) : given;
    }

    // ---- calls

    private boolean step(int calls) {
        int phase = calls < 60 ? 0 : calls < 160 ? 1 : 2;
        if (phase == 0 || one(8) == 0) {
            return tellSomething();
        }
        return phase == 1 && one(2) == 0 ? tellMethod() : askSomething();
    }

    private boolean tellSomething() {
        switch (one(10)) {
            case 0:
            case 1:
                return tellKind();
            case 2:
            case 3:
                return tellExtended();
            case 4:
                return tellBound();
            default:
                return one(typeHunger) == 0 || y.many(1) < 12 ? tellType() : askSomething();
        }
    }

    private boolean tellKind() {
        int first = one(4) == 0 ? wild(-1) : wild(one(3));
        int second = first == -1 || one(2) == 0 ? wild(-1) : wild(one(3));
        boolean isSealed = one(2) == 0;
        return same("kind(" + first + ", " + second + ", " + isSealed + ")",
                () -> x.kind(first, second, isSealed), () -> y.kind(first, second, isSealed));
    }

    private boolean tellExtended() {
        int kind = lateKind();
        int type = classType();
        return same("extend(" + kind + ", " + type + ")", () -> x.extend(kind, type), () -> y.extend(kind, type));
    }

    private boolean tellBound() {
        int kind = kind();
        int parameter = wild(one(2));
        int type = classType();
        return same("bound(" + kind + ", " + parameter + ", " + type + ")",
                () -> x.bound(kind, parameter, type), () -> y.bound(kind, parameter, type));
    }

    private boolean tellType() {
        int kind = one(2) == 0 ? lateKind() : kind();
        switch (one(6)) {
            case 0:
                int type = type();
                return same("array(" + type + ")", () -> x.array(type), () -> y.array(type));
            case 1:
            case 2:
                int parameter = wild(one(2));
                return same("parameter(" + kind + ", " + parameter + ")",
                        () -> x.parameter(kind, parameter), () -> y.parameter(kind, parameter));
            default:
                int first = argument(kind, 0);
                int second = argument(kind, 1);
                return same("of(" + kind + ", " + first + ", " + second + ")",
                        () -> x.of(kind, first, second), () -> y.of(kind, first, second));
        }
    }

    private boolean tellMethod() {
        if (one(5) == 0) {
            int method = wild(one(Math.max(1, y.many(2))));
            int type = one(2) == 0 ? classType() : type();
            return same("variable(" + method + ", " + type + ")",
                    () -> x.variable(method, type), () -> y.variable(method, type));
        }
        int kind = kind();
        int name = wild(one(2));
        int count = one(4);
        int first = formal(count, 0, kind);
        int second = formal(count, 1, kind);
        int third = formal(count, 2, kind);
        int result = one(3) == 0 ? 4 : type();
        boolean isMany = one(3) == 0;
        return same("method(" + kind + ", " + name + ", " + first + ", " + second + ", " + third + ", " + result + ", "
                + isMany + ")", () -> x.method(kind, name, first, second, third, result, isMany),
                () -> y.method(kind, name, first, second, third, result, isMany));
    }

    private boolean askSomething() {
        int kind = kind();
        int type = type();
        int other = type();
        int what = wild(one(8));
        int method = wild(one(Math.max(1, y.many(2))));
        switch (one(20)) {
            case 0:
                return same("ofKind(" + kind + ", " + what + ")",
                        () -> x.ofKind(kind, what), () -> y.ofKind(kind, what));
            case 1:
                return same("ofType(" + type + ", " + what + ")",
                        () -> x.ofType(type, what), () -> y.ofType(type, what));
            case 2:
                return same("isBelow(" + type + ", " + other + ")",
                        () -> x.isBelow(type, other), () -> y.isBelow(type, other));
            case 3:
                return same("join(" + type + ", " + other + ")", () -> x.join(type, other), () -> y.join(type, other));
            case 4:
                return same("as(" + type + ", " + kind + ")", () -> x.as(type, kind), () -> y.as(type, kind));
            case 5:
            case 6:
                return askAll();
            case 7:
                return same("ofMethod(" + method + ", " + what + ")",
                        () -> x.ofMethod(method, what), () -> y.ofMethod(method, what));
            case 8:
                return same("members(" + type + ", " + what + ")",
                        () -> x.members(type, what), () -> y.members(type, what));
            case 9:
                int k = wild(one(20));
                return same("fault(" + k + ", " + what % 3 + ")",
                        () -> x.fault(k, what % 3), () -> y.fault(k, what % 3));
            case 10:
                return same("many(" + what + ")", () -> x.many(what), () -> y.many(what));
            case 11:
                return same("meanMembers()", () -> x.meanMembers(), () -> y.meanMembers());
            case 12:
                int parameter = wild(one(2));
                return same("pairsWith(" + kind + ", " + parameter + ", " + what % 3 + ")",
                        () -> x.pairsWith(kind, parameter, what % 3), () -> y.pairsWith(kind, parameter, what % 3));
            case 13:
                return same("faultsWithout(" + method + ")",
                        () -> x.faultsWithout(method), () -> y.faultsWithout(method));
            case 14:
                return one(4) != 0 || same("digest()", () -> x.digest(), () -> y.digest());
            default:
                return askCall();
        }
    }

    private boolean askAll() {
        int type = classType();
        int all = (1 << y.many(0)) - 1;
        int set = wild(one(1 << 14) & one(1 << 14) & all & ~3);
        return same("areAll(" + type + ", " + set + ")", () -> x.areAll(type, set), () -> y.areAll(type, set));
    }

    private boolean askCall() {
        int type = one(4) == 0 ? type() : classType();
        int name = wild(one(2));
        int method = one(Math.max(1, y.many(2)));
        if (one(5) != 0 && type >= 0 && type < y.many(1)) {
            for (int tries = 0; tries < 15 && (y.members(type, one(2)) >> method & 1) == 0; tries++) {
                method = one(Math.max(1, y.many(2)));
                type = one(y.many(1));
            }
            name = method < y.many(2) ? y.ofMethod(method, 1) : name;
        }
        return askCall(type, name, method);
    }

    private boolean askCall(int type, int name, int method) {
        int count = one(3) != 0 && method < y.many(2) ? y.ofMethod(method, 2) : one(4);
        int first = givenTo(type, method, count, 0);
        int second = givenTo(type, method, count, 1);
        int third = givenTo(type, method, count, 2);
        for (int what = 0; what <= 4; what++) {
            int asked = wild(what);
            if (!same("call(" + type + ", " + name + ", " + first + ", " + second + ", " + third + ", " + asked + ")",
                    () -> x.call(type, name, first, second, third, asked),
                    () -> y.call(type, name, first, second, third, asked))) {
                return false;
            }
        }
        return true;
    }

    private boolean same(String call, Ask ask, Ask due) {
        String answer = answered(ask);
        String wanted = answered(due);
        told.add(call + " -> " + answer);
        check.due(call, answer, wanted);
        return answer.equals(wanted);
    }

    private static String answered(Ask ask) {
        try {
            return String.valueOf(ask.of());
        } catch (IndexOutOfBoundsException | IllegalArgumentException | IllegalStateException thrown) {
            return thrown.getClass().getName();
        }
    }
}
