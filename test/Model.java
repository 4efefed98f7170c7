import java.util.ArrayList;
import java.util.HashMap;
import java.util.HashSet;
import java.util.List;
import java.util.Map;
import java.util.Set;
import java.util.TreeSet;

/**
 * The document once more, as trees and from its words one by one, slow and with nothing kept: what DifferenceTest
 * compares BoundWright with. Types are trees, so two are the same if they are equal.
 */
final class Model {
    sealed interface Type permits Plain, OfClass, Parameter, ArrayOf {
    }

    enum Plain implements Type {
        INT, NULL, VARIABLE
    }

    record OfClass(int kind, List<Argument> arguments) implements Type {
    }

    record Parameter(int kind, int index) implements Type {
    }

    record ArrayOf(Type element) implements Type {
    }

    /** Mode NONE is ANY, with no type. */
    record Argument(int mode, Type type) {
    }

    private static final Argument ANY = new Argument(-1, null);
    private static final Type OBJECT = new OfClass(0, List.of());
    private static final Type BOX = new OfClass(1, List.of());

    private static final class Kind {
        final List<Integer> variances = new ArrayList<>();
        final List<Type> bounds = new ArrayList<>();
        final List<OfClass> told = new ArrayList<>();
        boolean isSealed;
    }

    private static final class Routine {
        int kind;
        int name;
        final List<Type> formals = new ArrayList<>();
        Type result;
        Type bound = OBJECT;
        boolean isMany;
    }

    record Fault(int number, int kind, int method) {
    }

    private final List<Kind> kinds = new ArrayList<>();
    private final List<Type> types = new ArrayList<>();
    private final List<Routine> routines = new ArrayList<>();

    Model() {
        kinds.add(new Kind());
        kinds.add(new Kind());
        types.addAll(List.of(Plain.INT, Plain.NULL, OBJECT, BOX, Plain.VARIABLE));
    }

    // ---- refusals

    private static void bounds(boolean isRefused) {
        if (isRefused) {
            throw new IndexOutOfBoundsException();
        }
    }

    private static void argument(boolean isRefused) {
        if (isRefused) {
            throw new IllegalArgumentException();
        }
    }

    private static void state(boolean isRefused) {
        if (isRefused) {
            throw new IllegalStateException();
        }
    }

    private boolean noKind(int kind) {
        return kind < 0 || kind >= kinds.size();
    }

    private boolean noParameter(int kind, int parameter) {
        return noKind(kind) || parameter < 0 || parameter >= kinds.get(kind).variances.size();
    }

    private boolean noType(int type) {
        return type < 0 || type >= types.size();
    }

    private boolean noMethod(int method) {
        return method < 0 || method >= routines.size();
    }

    // ---- classes

    int kind(int first, int second, boolean isSealed) {
        argument(first < -1 || first > 2 || second < -1 || second > 2 || first == -1 && second != -1);
        state(kinds.size() == 14);
        Kind kind = new Kind();
        kind.isSealed = isSealed;
        for (int variance : new int[] {first, second}) {
            if (variance != -1) {
                kind.variances.add(variance);
                kind.bounds.add(OBJECT);
            }
        }
        kinds.add(kind);
        return kinds.size() - 1;
    }

    int bound(int kind, int parameter, int type) {
        bounds(noParameter(kind, parameter) || noType(type));
        argument(!(types.get(type) instanceof OfClass c) || c.kind > kind || !isSimpleFor(c, kind));
        Type before = kinds.get(kind).bounds.set(parameter, types.get(type));
        return types.indexOf(before);
    }

    int extend(int kind, int type) {
        bounds(noKind(kind) || noType(type));
        argument(kind < 2 || !(types.get(type) instanceof OfClass c) || c.kind >= kind || !isSimpleFor(c, kind)
                || c.equals(BOX));
        OfClass it = (OfClass) types.get(type);
        List<OfClass> told = kinds.get(kind).told;
        state(told.size() == 3 || told.stream().anyMatch(each -> each.kind == it.kind));
        told.add(it);
        return told.size();
    }

    private boolean isSimpleFor(OfClass type, int kind) {
        for (Argument each : type.arguments) {
            boolean isOwn = each.mode == 0 && each.type instanceof Parameter p && p.kind == kind;
            if (!each.equals(ANY) && !isOwn && !isClosed(each.type)) {
                return false;
            }
        }
        return true;
    }

    int ofKind(int kind, int what) {
        bounds(noKind(kind));
        argument(what < 0 || what > 7);
        switch (what) {
            case 0: return kinds.get(kind).variances.size();
            case 1: return extended(kind).size();
            case 2: return set(above(kind));
            case 3: return set(extending(kind));
            case 4: return (int) routines.stream().filter(each -> each.kind == kind).count();
            case 5: return membersOfKind(kind).size();
            case 6: return bridgesOfKind(kind);
            default: return (int) faults().stream().filter(each -> each.kind == kind).count();
        }
    }

    private static int set(Set<Integer> numbers) {
        int sum = 0;
        for (int each : numbers) {
            sum += 1 << each;
        }
        return sum;
    }

    private List<OfClass> extended(int kind) {
        List<OfClass> told = kinds.get(kind).told;
        return kind == 0 || !told.isEmpty() ? told : List.of((OfClass) OBJECT);
    }

    private Set<Integer> above(int kind) {
        Set<Integer> above = new TreeSet<>();
        for (OfClass each : extended(kind)) {
            above.add(each.kind);
            above.addAll(above(each.kind));
        }
        return above;
    }

    private Set<Integer> extending(int kind) {
        Set<Integer> set = new TreeSet<>();
        for (int each = 0; each < kinds.size(); each++) {
            if (extended(each).stream().anyMatch(type -> type.kind == kind)) {
                set.add(each);
            }
        }
        return set;
    }

    private OfClass self(int kind) {
        List<Argument> arguments = new ArrayList<>();
        for (int index = 0; index < kinds.get(kind).variances.size(); index++) {
            arguments.add(new Argument(0, new Parameter(kind, index)));
        }
        return new OfClass(kind, arguments);
    }

    // ---- types

    int of(int kind, int first, int second) {
        bounds(noKind(kind));
        int[] told = {first, second};
        List<Argument> arguments = new ArrayList<>();
        for (int index = 0; index < 2; index++) {
            if (index >= kinds.get(kind).variances.size()) {
                argument(told[index] != 0);
            } else if (told[index] == -1) {
                arguments.add(ANY);
            } else {
                argument(told[index] < 0 || noType(told[index] / 3) || told[index] / 3 < 2);
                arguments.add(new Argument(told[index] % 3, types.get(told[index] / 3)));
            }
        }
        return tell(new OfClass(kind, arguments));
    }

    int parameter(int kind, int parameter) {
        bounds(noParameter(kind, parameter));
        return tell(new Parameter(kind, parameter));
    }

    int array(int type) {
        bounds(noType(type));
        argument(types.get(type) == Plain.NULL);
        return tell(new ArrayOf(types.get(type)));
    }

    private int tell(Type type) {
        argument(deep(type) > 4);
        if (!types.contains(type)) {
            state(types.size() == 33);
            types.add(type);
        }
        return types.indexOf(type);
    }

    private int deep(Type type) {
        if (type instanceof ArrayOf a) {
            return 1 + deep(a.element);
        }
        int deepest = 0;
        if (type instanceof OfClass c) {
            for (Argument each : c.arguments) {
                deepest = each.mode == -1 ? deepest : Math.max(deepest, deep(each.type));
            }
        }
        return 1 + deepest;
    }

    int ofType(int number, int what) {
        bounds(noType(number));
        argument(what < 0 || what > 5);
        Type type = types.get(number);
        switch (what) {
            case 0:
                return type instanceof OfClass ? 2 : type instanceof Parameter ? 4 : type instanceof ArrayOf ? 5
                        : type == Plain.INT ? 0 : type == Plain.NULL ? 1 : 3;
            case 1: return erased(type, OBJECT);
            case 2: return code(type);
            case 3: return isClosed(type) ? 1 : 0;
            case 4: return keeps(type) ? 1 : 0;
            default: return membersOfKind(receiver(type).kind).size();
        }
    }

    private boolean isClosed(Type type) {
        if (type instanceof OfClass c) {
            return c.arguments.stream().allMatch(each -> each.mode == -1 || isClosed(each.type));
        }
        return type instanceof ArrayOf a ? isClosed(a.element) : !(type instanceof Parameter) && type != Plain.VARIABLE;
    }

    private static int code(Type type) {
        if (type instanceof Parameter p) {
            return 10 + 2 * p.kind + p.index;
        }
        if (type instanceof ArrayOf a) {
            return (17 * code(a.element) + 5) % 99991;
        }
        if (type instanceof OfClass c) {
            long sum = 50 + c.kind;
            for (Argument each : c.arguments) {
                sum = (sum * 31 + (each.mode == -1 ? 7 : 8 + 3L * code(each.type) + each.mode)) % 99991;
            }
            return (int) sum;
        }
        return type == Plain.INT ? 1 : type == Plain.NULL ? 2 : 3;
    }

    private int erased(Type type, Type boundOfVariable) {
        if (type instanceof Parameter p) {
            return erased(kinds.get(p.kind).bounds.get(p.index), boundOfVariable);
        }
        if (type instanceof ArrayOf a) {
            return 1000 + erased(a.element, boundOfVariable);
        }
        if (type instanceof OfClass c) {
            return c.kind;
        }
        return type == Plain.INT ? 100 : type == Plain.NULL ? 101 : erased(boundOfVariable, OBJECT);
    }

    /** What stands for a parameter; null for what is none of those. */
    private interface Places {
        Argument of(Type type);
    }

    private static Places ofClass(int kind, List<Argument> arguments) {
        return type -> type instanceof Parameter p && p.kind == kind ? arguments.get(p.index) : null;
    }

    private static Places ofVariable(Type standIn) {
        return type -> type == Plain.VARIABLE ? new Argument(0, standIn) : null;
    }

    private static Type put(Type type, Places places) {
        Argument place = places.of(type);
        if (place != null) {
            return place.mode == 0 || place.mode == 1 ? place.type : OBJECT;
        }
        if (type instanceof ArrayOf a) {
            return new ArrayOf(put(a.element, places));
        }
        if (type instanceof OfClass c) {
            List<Argument> arguments = new ArrayList<>();
            for (Argument each : c.arguments) {
                Argument whole = each.mode == 0 ? places.of(each.type) : null;
                if (each.mode == -1) {
                    arguments.add(each);
                } else {
                    arguments.add(whole != null ? whole : new Argument(each.mode, put(each.type, places)));
                }
            }
            return new OfClass(c.kind, arguments);
        }
        return type;
    }

    private OfClass as(OfClass type, int kind) {
        if (type.kind == kind) {
            return type;
        }
        for (OfClass each : extended(type.kind)) {
            if (each.kind == kind || above(each.kind).contains(kind)) {
                return as((OfClass) put(each, ofClass(type.kind, type.arguments)), kind);
            }
        }
        return null;
    }

    boolean isBelow(int one, int other) {
        bounds(noType(one) || noType(other));
        return below(types.get(one), types.get(other), 0);
    }

    private boolean below(Type s, Type t, int deep) {
        if (deep == 8) {
            return false;
        }
        if (s.equals(t) || s == Plain.NULL && t != Plain.INT || t.equals(OBJECT) && s != Plain.INT) {
            return true;
        }
        if (s instanceof Parameter p) {
            return below(kinds.get(p.kind).bounds.get(p.index), t, deep + 1);
        }
        if (s instanceof ArrayOf a && t instanceof ArrayOf b) {
            return a.element != Plain.INT && b.element != Plain.INT && below(a.element, b.element, deep + 1);
        }
        if (s instanceof OfClass c && t instanceof OfClass d && (c.kind == d.kind || above(c.kind).contains(d.kind))) {
            OfClass seen = as(c, d.kind);
            for (int index = 0; index < d.arguments.size(); index++) {
                int variance = kinds.get(d.kind).variances.get(index);
                if (!within(seen.arguments.get(index), d.arguments.get(index), variance, deep)) {
                    return false;
                }
            }
            return true;
        }
        return false;
    }

    private boolean within(Argument toldOne, Argument toldOther, int variance, int deep) {
        Argument one = toldOne.mode == 0 ? new Argument(variance, toldOne.type) : toldOne;
        Argument other = toldOther.mode == 0 ? new Argument(variance, toldOther.type) : toldOther;
        switch (other.mode) {
            case -1: return true;
            case 0: return one.equals(other);
            case 1:
                return other.type.equals(OBJECT)
                        || (one.mode == 0 || one.mode == 1) && below(one.type, other.type, deep + 1);
            default: return (one.mode == 0 || one.mode == 2) && below(other.type, one.type, deep + 1);
        }
    }

    int join(int one, int other) {
        bounds(noType(one) || noType(other));
        return code(joined(types.get(one), types.get(other), false));
    }

    private Type joined(Type s, Type t, boolean isForArgument) {
        if (below(s, t, 0)) {
            return t;
        }
        if (below(t, s, 0)) {
            return s;
        }
        if (s == Plain.INT || s instanceof Parameter) {
            return joined(boxOrBound(s), t, isForArgument);
        }
        if (t == Plain.INT || t instanceof Parameter) {
            return joined(s, boxOrBound(t), isForArgument);
        }
        if (s instanceof ArrayOf a && t instanceof ArrayOf b && a.element != Plain.INT && b.element != Plain.INT) {
            return new ArrayOf(joined(a.element, b.element, isForArgument));
        }
        return s instanceof OfClass c && t instanceof OfClass d ? joinedClasses(c, d, isForArgument) : OBJECT;
    }

    private Type boxOrBound(Type type) {
        return type instanceof Parameter p ? kinds.get(p.kind).bounds.get(p.index) : BOX;
    }

    private Type joinedClasses(OfClass s, OfClass t, boolean isForArgument) {
        Set<Integer> shared = above(s.kind);
        shared.add(s.kind);
        Set<Integer> others = above(t.kind);
        others.add(t.kind);
        shared.retainAll(others);
        int lowest = -1;
        for (int each : shared) {
            boolean isAbove = shared.stream().anyMatch(other -> above(other).contains(each));
            lowest = lowest == -1 && !isAbove ? each : lowest;
        }
        List<Argument> arguments = new ArrayList<>();
        for (int index = 0; index < kinds.get(lowest).variances.size(); index++) {
            Argument one = as(s, lowest).arguments.get(index);
            Argument other = as(t, lowest).arguments.get(index);
            boolean isJoined = one.mode != -1 && one.mode != 2 && other.mode != -1 && other.mode != 2
                    && kinds.get(lowest).variances.get(index) != 2;
            if (one.equals(other)) {
                arguments.add(one);
            } else {
                arguments.add(isJoined && !isForArgument ? new Argument(1, joined(one.type, other.type, true)) : ANY);
            }
        }
        return new OfClass(lowest, arguments);
    }

    int as(int type, int kind) {
        bounds(noType(type) || noKind(kind));
        OfClass seen = types.get(type) instanceof OfClass c ? as(c, kind) : null;
        return seen == null ? -1 : code(seen);
    }

    private boolean keeps(Type type) {
        if (type instanceof ArrayOf a) {
            return keeps(a.element);
        }
        if (type instanceof OfClass c) {
            for (int index = 0; index < c.arguments.size(); index++) {
                Argument each = c.arguments.get(index);
                Type bound = put(kinds.get(c.kind).bounds.get(index), ofClass(c.kind, c.arguments));
                if (each.mode != -1 && !keeps(each.type)
                        || (each.mode == 0 || each.mode == 1) && !below(each.type, bound, 0)) {
                    return false;
                }
            }
        }
        return true;
    }

    boolean areAll(int number, int set) {
        bounds(noType(number));
        argument(set < 0 || set >= 1 << kinds.size());
        if (!(types.get(number) instanceof OfClass type)) {
            return false;
        }
        if (isNamed(type.kind, set)) {
            return true;
        }
        return kinds.get(type.kind).isSealed
                && extending(type.kind).stream().allMatch(each -> isCovered(each, set) || cannotBe(each, type));
    }

    private boolean isNamed(int kind, int set) {
        Set<Integer> all = above(kind);
        all.add(kind);
        return all.stream().anyMatch(each -> (set >> each) % 2 == 1);
    }

    private boolean isCovered(int kind, int set) {
        return isNamed(kind, set)
                || kinds.get(kind).isSealed && extending(kind).stream().allMatch(each -> isCovered(each, set));
    }

    private boolean cannotBe(int kind, OfClass type) {
        OfClass extended = extended(kind).stream().filter(each -> each.kind == type.kind).findFirst().orElseThrow();
        for (int index = 0; index < type.arguments.size(); index++) {
            Argument each = extended.arguments.get(index);
            int variance = kinds.get(type.kind).variances.get(index);
            if ((each.mode == -1 || isClosed(each.type)) && !within(each, type.arguments.get(index), variance, 0)) {
                return true;
            }
        }
        return false;
    }

    // ---- methods

    int method(int kind, int name, int first, int second, int third, int result, boolean isMany) {
        int[] told = {first, second, third};
        bounds(noKind(kind));
        for (int each : told) {
            bounds(each != -1 && noType(each));
        }
        bounds(noType(result));
        argument(name < 0 || name > 7 || first == -1 && second != -1 || second == -1 && third != -1);
        Routine routine = new Routine();
        routine.kind = kind;
        routine.name = name;
        routine.isMany = isMany;
        routine.result = types.get(result);
        for (int each : told) {
            if (each != -1) {
                routine.formals.add(types.get(each));
            }
        }
        argument(!isUsable(routine.result, kind));
        for (Type each : routine.formals) {
            argument(!isUsable(each, kind));
        }
        int count = routine.formals.size();
        argument(isMany && (count == 0 || !(routine.formals.get(count - 1) instanceof ArrayOf)));
        state(routines.size() == 20);
        routines.add(routine);
        return routines.size() - 1;
    }

    private boolean isUsable(Type type, int kind) {
        return type != Plain.NULL && hasOnlyOf(type, kind);
    }

    private boolean hasOnlyOf(Type type, int kind) {
        if (type instanceof Parameter p) {
            return p.kind == kind;
        }
        if (type instanceof ArrayOf a) {
            return hasOnlyOf(a.element, kind);
        }
        return !(type instanceof OfClass c)
                || c.arguments.stream().allMatch(each -> each.mode == -1 || hasOnlyOf(each.type, kind));
    }

    int variable(int method, int type) {
        bounds(noMethod(method) || noType(type));
        argument(!(types.get(type) instanceof OfClass) || !isClosed(types.get(type)));
        int before = types.indexOf(routines.get(method).bound);
        routines.get(method).bound = types.get(type);
        return before;
    }

    int ofMethod(int method, int what) {
        bounds(noMethod(method));
        argument(what < 0 || what > 5);
        Routine it = routines.get(method);
        switch (what) {
            case 0: return it.kind;
            case 1: return it.name;
            case 2: return it.formals.size();
            case 3:
                int sum = 0;
                for (int other = 0; other < routines.size(); other++) {
                    sum += overrides(it, routines.get(other)) ? 1 << other : 0;
                }
                return sum;
            case 4: return erased(it.result, it.bound);
            default: return bridges(it);
        }
    }

    private boolean overrides(Routine m, Routine n) {
        if (!above(m.kind).contains(n.kind) || m.name != n.name || m.formals.size() != n.formals.size()) {
            return false;
        }
        for (int place = 0; place < m.formals.size(); place++) {
            if (!m.formals.get(place).equals(seen(n.formals.get(place), self(m.kind), n.kind))) {
                return false;
            }
        }
        return true;
    }

    /** A type of a method of that class, with the arguments of the receiver as that class put in. */
    private Type seen(Type type, OfClass receiver, int kind) {
        return put(type, ofClass(kind, as(receiver, kind).arguments));
    }

    private Set<Integer> membersOfKind(int kind) {
        Set<Integer> all = above(kind);
        all.add(kind);
        Set<Integer> members = new TreeSet<>();
        for (int n = 0; n < routines.size(); n++) {
            Routine it = routines.get(n);
            boolean isReplaced = routines.stream().anyMatch(m -> all.contains(m.kind) && overrides(m, it));
            if (all.contains(it.kind) && !isReplaced) {
                members.add(n);
            }
        }
        return members;
    }

    private OfClass receiver(Type type) {
        if (type instanceof Parameter p) {
            return (OfClass) kinds.get(p.kind).bounds.get(p.index);
        }
        return type instanceof OfClass c ? c : (OfClass) OBJECT;
    }

    private List<Integer> erasedOf(Routine m) {
        List<Integer> all = erasedFormals(m);
        all.add(erased(m.result, m.bound));
        return all;
    }

    private List<Integer> erasedFormals(Routine m) {
        List<Integer> all = new ArrayList<>();
        for (Type each : m.formals) {
            all.add(erased(each, m.bound));
        }
        return all;
    }

    private int bridges(Routine m) {
        Set<List<Integer>> all = new HashSet<>();
        for (Routine n : routines) {
            if (overrides(m, n) && !erasedOf(n).equals(erasedOf(m))) {
                all.add(erasedOf(n));
            }
        }
        return all.size();
    }

    private int bridgesOfKind(int kind) {
        return routines.stream().filter(each -> each.kind == kind).mapToInt(this::bridges).sum();
    }

    int members(int type, int name) {
        bounds(noType(type));
        argument(name < 0 || name > 7);
        Set<Integer> members = membersOfKind(receiver(types.get(type)).kind);
        members.removeIf(each -> routines.get(each).name != name);
        return set(members);
    }

    // ---- calls

    /** How a method would be called: the formals place by place, for what VARIABLE stands, the result. */
    private record Fit(int method, List<Type> places, Type standIn, Type result) {
    }

    int call(int type, int name, int first, int second, int third, int what) {
        int[] told = {first, second, third};
        bounds(noType(type));
        for (int each : told) {
            bounds(each != -1 && noType(each));
        }
        argument(name < 0 || name > 7 || first == -1 && second != -1 || second == -1 && third != -1);
        argument(what < 0 || what > 4);
        List<Type> given = new ArrayList<>();
        for (int each : told) {
            if (each != -1) {
                given.add(types.get(each));
            }
        }
        OfClass receiver = receiver(types.get(type));
        for (int phase = 1; phase <= 3; phase++) {
            List<Fit> fits = new ArrayList<>();
            for (int each : membersOfKind(receiver.kind)) {
                Fit fit = routines.get(each).name == name ? fit(each, receiver, given, phase) : null;
                if (fit != null) {
                    fits.add(fit);
                }
            }
            if (!fits.isEmpty()) {
                return answer(mostSpecial(fits), phase, what);
            }
        }
        return -1;
    }

    private int answer(Fit fit, int phase, int what) {
        if (fit == null) {
            return what == 0 ? -2 : -1;
        }
        Routine it = routines.get(fit.method);
        switch (what) {
            case 0: return fit.method;
            case 1: return phase;
            case 2: return code(fit.result);
            case 3: return code(fit.standIn);
            default:
                int here = erased(fit.result, it.bound);
                return here == erased(it.result, it.bound) ? -1 : here;
        }
    }

    private Fit fit(int method, OfClass receiver, List<Type> given, int phase) {
        Routine it = routines.get(method);
        int count = it.formals.size();
        if (phase < 3 ? given.size() != count : !it.isMany || given.size() < count - 1) {
            return null;
        }
        List<Type> places = new ArrayList<>();
        for (int place = 0; place < given.size(); place++) {
            Type formal = seen(it.formals.get(Math.min(place, count - 1)), receiver, it.kind);
            places.add(phase == 3 && place >= count - 1 ? ((ArrayOf) formal).element : formal);
        }
        Type standIn = null;
        for (int place = 0; place < given.size(); place++) {
            if (places.get(place) == Plain.VARIABLE) {
                Type its = given.get(place);
                if (its == Plain.INT && phase == 1) {
                    return null;
                }
                its = its == Plain.INT ? BOX : its;
                standIn = standIn == null ? its : joined(standIn, its, false);
            }
        }
        standIn = standIn == null ? OBJECT : standIn;
        if (!below(standIn, it.bound, 0)) {
            return null;
        }
        for (int place = 0; place < given.size(); place++) {
            if (!suits(given.get(place), put(places.get(place), ofVariable(standIn)), phase)) {
                return null;
            }
        }
        return new Fit(method, places, standIn, put(seen(it.result, receiver, it.kind), ofVariable(standIn)));
    }

    private boolean suits(Type given, Type formal, int phase) {
        if (below(given, formal, 0)) {
            return true;
        }
        return phase > 1 && (given == Plain.INT && below(BOX, formal, 0)
                || formal == Plain.INT && given != Plain.NULL && below(given, BOX, 0));
    }

    private Fit mostSpecial(List<Fit> fits) {
        List<Fit> best = new ArrayList<>();
        for (Fit one : fits) {
            if (fits.stream().allMatch(other -> other == one || isMoreSpecial(one, other))) {
                best.add(one);
            }
        }
        return best.size() == 1 ? best.get(0) : null;
    }

    private boolean isMoreSpecial(Fit one, Fit other) {
        for (int place = 0; place < one.places.size(); place++) {
            Type mine = put(one.places.get(place), ofVariable(routines.get(one.method).bound));
            Type its = put(other.places.get(place), ofVariable(routines.get(other.method).bound));
            if (!below(mine, its, 0)) {
                return false;
            }
        }
        return true;
    }

    // ---- all

    private List<Fault> faults() {
        List<Fault> all = new ArrayList<>();
        for (int kind = 0; kind < kinds.size(); kind++) {
            if (isTwofold(kind)) {
                all.add(new Fault(1, kind, -1));
            }
            for (OfClass each : extended(kind)) {
                if (!keeps(each)) {
                    all.add(new Fault(2, kind, -1));
                }
            }
            for (int method = 0; method < routines.size(); method++) {
                if (routines.get(method).kind == kind) {
                    addFaults(all, method);
                }
            }
        }
        return all;
    }

    private boolean isTwofold(int kind) {
        Set<OfClass> seen = new HashSet<>();
        List<OfClass> open = new ArrayList<>(List.of(self(kind)));
        while (!open.isEmpty()) {
            OfClass each = open.remove(open.size() - 1);
            for (OfClass up : extended(each.kind)) {
                OfClass type = (OfClass) put(up, ofClass(each.kind, each.arguments));
                if (seen.add(type)) {
                    open.add(type);
                }
            }
        }
        Map<Integer, Integer> counts = new HashMap<>();
        for (OfClass each : seen) {
            counts.merge(each.kind, 1, Integer::sum);
        }
        return counts.values().stream().anyMatch(each -> each > 1);
    }

    private void addFaults(List<Fault> all, int method) {
        Routine m = routines.get(method);
        List<Type> both = new ArrayList<>(m.formals);
        both.add(m.result);
        if (m.formals.stream().anyMatch(each -> isOf(each, 1)) || isOf(m.result, 2)) {
            all.add(new Fault(3, m.kind, method));
        }
        if (!both.stream().allMatch(this::keeps)) {
            all.add(new Fault(6, m.kind, method));
        }
        for (int other = 0; other < routines.size(); other++) {
            Routine n = routines.get(other);
            boolean isAsked = n.kind == m.kind && other < method || above(m.kind).contains(n.kind) && !overrides(m, n);
            if (isAsked && n.name == m.name && erasedFormals(n).equals(erasedFormals(m))) {
                all.add(new Fault(4, m.kind, method));
                break;
            }
        }
        for (Routine n : routines) {
            if (overrides(m, n) && !below(m.result, seen(n.result, self(m.kind), n.kind), 0)) {
                all.add(new Fault(5, m.kind, method));
                break;
            }
        }
    }

    private boolean isOf(Type type, int variance) {
        return type instanceof Parameter p && kinds.get(p.kind).variances.get(p.index) == variance;
    }

    int fault(int k, int what) {
        List<Fault> all = faults();
        bounds(k < 0 || k >= all.size());
        argument(what < 0 || what > 2);
        return what == 0 ? all.get(k).number : what == 1 ? all.get(k).kind : all.get(k).method;
    }

    int many(int what) {
        argument(what < 0 || what > 6);
        switch (what) {
            case 0: return kinds.size();
            case 1: return types.size();
            case 2: return routines.size();
            case 3: return faults().size();
            case 4: return routines.stream().mapToInt(this::bridges).sum();
            case 5: return (int) kinds.stream().filter(each -> each.isSealed).count();
            default: return pairs();
        }
    }

    private int pairs() {
        int pairs = 0;
        for (Type one : types) {
            for (Type other : types) {
                pairs += one != other && below(one, other, 0) ? 1 : 0;
            }
        }
        return pairs;
    }

    double meanMembers() {
        double sum = 0;
        for (int kind = 0; kind < kinds.size(); kind++) {
            sum += membersOfKind(kind).size();
        }
        return sum / kinds.size();
    }

    int pairsWith(int kind, int parameter, int variance) {
        bounds(noParameter(kind, parameter));
        argument(variance < 0 || variance > 2);
        int before = kinds.get(kind).variances.set(parameter, variance);
        int pairs = pairs();
        kinds.get(kind).variances.set(parameter, before);
        return pairs;
    }

    int faultsWithout(int method) {
        bounds(noMethod(method));
        Routine removed = routines.remove(method);
        int count = faults().size();
        routines.add(method, removed);
        return count;
    }

    long digest() {
        List<Integer> all = new ArrayList<>();
        for (int what = 0; what <= 6; what++) {
            all.add(many(what));
        }
        for (int kind = 0; kind < kinds.size(); kind++) {
            for (int what = 0; what <= 7; what++) {
                all.add(ofKind(kind, what));
            }
            all.add(areAll(2, 1 << kind) ? 1 : 0);
        }
        for (int type = 0; type < types.size(); type++) {
            for (int what = 0; what <= 5; what++) {
                all.add(ofType(type, what));
            }
            for (int smaller = 0; smaller < type; smaller++) {
                all.add(join(type, smaller));
            }
        }
        for (int method = 0; method < routines.size(); method++) {
            for (int what = 0; what <= 5; what++) {
                all.add(ofMethod(method, what));
            }
            all.add(faultsWithout(method));
        }
        for (int k = 0; k < many(3); k++) {
            for (int what = 0; what <= 2; what++) {
                all.add(fault(k, what));
            }
        }
        long d = 58134;
        for (int each : all) {
            d = d * 31 + each;
        }
        return d;
    }

    // ---- for who makes up calls

    boolean isUsableFor(int type, int kind) {
        return !noType(type) && !noKind(kind) && isUsable(types.get(type), kind);
    }

    boolean isAbove(int kind, int other) {
        return !noKind(other) && above(other).contains(kind);
    }

    /** The formal of that method as the class sees it, by its number; -1 if there is none, or it is not told. */
    int formalSeen(int method, int place, int kind) {
        if (noMethod(method) || noKind(kind) || place >= routines.get(method).formals.size()) {
            return -1;
        }
        Routine n = routines.get(method);
        return n.kind == kind || above(kind).contains(n.kind)
                ? types.indexOf(seen(n.formals.get(place), self(kind), n.kind)) : -1;
    }

    /** Whether what is given there may suit the method on that type; a many one goes on with its last formal. */
    boolean maySuit(int type, int method, int place, int given) {
        if (noMethod(method) || noType(type) || noType(given) || routines.get(method).formals.isEmpty()) {
            return true;
        }
        Routine n = routines.get(method);
        OfClass receiver = receiver(types.get(type));
        if (as(receiver, n.kind) == null) {
            return true;
        }
        int last = n.formals.size() - 1;
        Type formal = seen(n.formals.get(Math.min(place, last)), receiver, n.kind);
        Type element = n.isMany && place >= last && formal instanceof ArrayOf a ? a.element : formal;
        return suits(types.get(given), formal, 2) || suits(types.get(given), element, 2)
                || formal == Plain.VARIABLE || element == Plain.VARIABLE;
    }
}
