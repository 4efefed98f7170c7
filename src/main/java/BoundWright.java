import java.util.Arrays;

/**
 * A checker of types with parameters: classes with parameters, variance and bounds are told, types
 * of them and methods, and one asks what is below what, what a call chooses, and what is wrong.
 */
public final class BoundWright {
    private static final int NONE = -1;
    private static final int ANY = -1;
    private static final int AMBIGUOUS = -2;

    private static final int MOST_KINDS = 14;
    private static final int MOST_TYPES = 33;
    private static final int MOST_METHODS = 20;
    private static final int MOST_EXTENDED = 3;
    private static final int MOST_FORMALS = 3;
    private static final int NAMES = 8;
    private static final int DEEPEST_TOLD = 4;

    // The types that every object has, by their numbers.
    private static final int INT = 0;
    private static final int NULL = 1;
    private static final int OBJECT = 2;
    private static final int BOX = 3;
    private static final int VARIABLE = 4;
    private static final int FIRST_ARGUMENT = 3 * OBJECT;

    // The same two classes by their numbers as classes.
    private static final int OBJECT_KIND = 0;
    private static final int BOX_KIND = 1;

    // What a type is.
    private static final int IS_INT = 0;
    private static final int IS_NULL = 1;
    private static final int IS_CLASS = 2;
    private static final int IS_VARIABLE = 3;
    private static final int IS_PARAMETER = 4;
    private static final int IS_ARRAY = 5;

    // Modes of arguments; a variance has the number of the mode that it makes of EXACT.
    private static final int EXACT = 0;
    private static final int OUT = 1;
    private static final int IN = 2;

    // VARIABLE is put in as if it were the first parameter of a class behind the last one.
    private static final int VARIABLE_KIND = MOST_KINDS;

    private final Forms forms;
    private final Kinds kinds;
    private final Order order;
    private final Routines routines;
    private final Faults faults;
    private final Review review;
    private final Caller caller;

    public BoundWright() {
        forms = new Forms();
        kinds = new Kinds(forms);
        order = new Order(forms, kinds);
        routines = new Routines();
        faults = new Faults(kinds, routines);
        review = new Review(forms, kinds, order, routines, faults);
        caller = new Caller(forms, kinds, order, routines);
    }

    // ---- classes

    public int kind(int first, int second, boolean isSealed) throws IllegalArgumentException, IllegalStateException {
        if (!isVarianceOrNone(first) || !isVarianceOrNone(second) || (first == NONE && second != NONE)) {
            throw new IllegalArgumentException("no such variance");
        }
        if (kinds.count >= MOST_KINDS) {
            throw new IllegalStateException("too many classes");
        }
        int kind = kinds.add(first, second, isSealed);
        review.refresh();
        return kind;
    }

    public int bound(int kind, int parameter, int type) throws IndexOutOfBoundsException, IllegalArgumentException {
        needParameter(kind, parameter);
        needType(type);
        if (forms.what[type] != IS_CLASS || forms.owner[type] > kind || !isSimpleOf(type, kind)) {
            throw new IllegalArgumentException("no bound for this class");
        }
        int before = kinds.limits[2 * kind + parameter];
        kinds.limits[2 * kind + parameter] = type;
        review.refresh();
        return before;
    }

    public int extend(int kind, int type)
            throws IndexOutOfBoundsException, IllegalArgumentException, IllegalStateException {
        needKind(kind);
        needType(type);
        if (kind == OBJECT_KIND || kind == BOX_KIND || !isExtendable(type, kind)) {
            throw new IllegalArgumentException("nothing to extend for this class");
        }
        if (kinds.told[kind] >= MOST_EXTENDED || kinds.isToldOf(kind, forms.owner[type])) {
            throw new IllegalStateException("extends too many, or one of that class");
        }
        kinds.lengthen(kind, type);
        review.refresh();
        return kinds.told[kind];
    }

    public int ofKind(int kind, int what) throws IndexOutOfBoundsException, IllegalArgumentException {
        needKind(kind);
        needWithin(what, 7);
        switch (what) {
            case 0:
                return kinds.parameters[kind];
            case 1:
                return kinds.extendedCount(kind);
            case 2:
                return kinds.above[kind];
            case 3:
                return kinds.directlyBelow(kind);
            case 4:
                return Integer.bitCount(routines.setOf(1 << kind));
            case 5:
                return membersOfKind(kind);
            case 6:
                return review.bridgesOfKind(kind);
            default:
                return faults.countOfKind(kind);
        }
    }

    // ---- types

    public int of(int kind, int first, int second)
            throws IndexOutOfBoundsException, IllegalArgumentException, IllegalStateException {
        needKind(kind);
        if (!isArgument(kind, 0, first) || !isArgument(kind, 1, second)
                || forms.deepOf(IS_CLASS, first, second) > DEEPEST_TOLD) {
            throw new IllegalArgumentException("no such argument, or too deep");
        }
        return tell(IS_CLASS, kind, first, second);
    }

    public int parameter(int kind, int parameter) throws IndexOutOfBoundsException, IllegalStateException {
        needParameter(kind, parameter);
        return tell(IS_PARAMETER, kind, parameter, 0);
    }

    public int array(int type) throws IndexOutOfBoundsException, IllegalArgumentException, IllegalStateException {
        needType(type);
        if (type == NULL || forms.deepOf(IS_ARRAY, type, 0) > DEEPEST_TOLD) {
            throw new IllegalArgumentException("no array of that");
        }
        return tell(IS_ARRAY, 0, type, 0);
    }

    public int ofType(int type, int what) throws IndexOutOfBoundsException, IllegalArgumentException {
        needType(type);
        needWithin(what, 5);
        switch (what) {
            case 0:
                return forms.what[type];
            case 1:
                return order.erased(type, OBJECT);
            case 2:
                return forms.code[type];
            case 3:
                return forms.owners[type] == 0 ? 1 : 0;
            case 4:
                return isKeeping(type) ? 1 : 0;
            default:
                return membersOfKind(forms.owner[kinds.receiver(type)]);
        }
    }

    public boolean isBelow(int one, int other) throws IndexOutOfBoundsException {
        needType(one);
        needType(other);
        return order.isUnder(one, other, 0);
    }

    public int join(int one, int other) throws IndexOutOfBoundsException {
        needType(one);
        needType(other);
        int mark = forms.count;
        int code = forms.code[order.joined(one, other, false, 0)];
        forms.release(mark);
        return code;
    }

    public int as(int type, int kind) throws IndexOutOfBoundsException {
        needType(type);
        needKind(kind);
        if (forms.what[type] != IS_CLASS || !kinds.isOrHasAbove(forms.owner[type], kind)) {
            return NONE;
        }
        int mark = forms.count;
        int code = forms.code[kinds.formAs(type, kind)];
        forms.release(mark);
        return code;
    }

    public boolean areAll(int type, int kinds) throws IndexOutOfBoundsException, IllegalArgumentException {
        needType(type);
        if (kinds < 0 || kinds >>> this.kinds.count != 0) {
            throw new IllegalArgumentException("no such class");
        }
        return order.isCovered(type, kinds);
    }

    // ---- methods

    public int method(int kind, int name, int first, int second, int third, int result, boolean isMany)
            throws IndexOutOfBoundsException, IllegalArgumentException, IllegalStateException {
        needKind(kind);
        needTypeOrNone(first);
        needTypeOrNone(second);
        needTypeOrNone(third);
        needType(result);
        if (!isName(name) || isGap(first, second, third) || !isUsable(first, kind) || !isUsable(second, kind)
                || !isUsable(third, kind) || !isUsable(result, kind)) {
            throw new IllegalArgumentException("no such method");
        }
        int last = third != NONE ? third : second != NONE ? second : first;
        if (isMany && (last == NONE || forms.what[last] != IS_ARRAY)) {
            throw new IllegalArgumentException("many of no array");
        }
        if (routines.count >= MOST_METHODS) {
            throw new IllegalStateException("too many methods");
        }
        routines.add(kind, name, result, isMany);
        routines.addFormal(first);
        routines.addFormal(second);
        routines.addFormal(third);
        review.refresh();
        return routines.count - 1;
    }

    public int variable(int method, int type) throws IndexOutOfBoundsException, IllegalArgumentException {
        needMethod(method);
        needType(type);
        if (forms.what[type] != IS_CLASS || forms.owners[type] != 0) {
            throw new IllegalArgumentException("no bound of a variable");
        }
        int before = routines.limits[method];
        routines.limits[method] = type;
        review.refresh();
        return before;
    }

    public int ofMethod(int method, int what) throws IndexOutOfBoundsException, IllegalArgumentException {
        needMethod(method);
        needWithin(what, 5);
        switch (what) {
            case 0:
                return routines.kinds[method];
            case 1:
                return routines.names[method];
            case 2:
                return routines.formalCount[method];
            case 3:
                return review.overridden[method];
            case 4:
                return review.erasedResults[method];
            default:
                return review.bridges[method];
        }
    }

    public int call(int type, int name, int first, int second, int third, int what)
            throws IndexOutOfBoundsException, IllegalArgumentException {
        needType(type);
        needTypeOrNone(first);
        needTypeOrNone(second);
        needTypeOrNone(third);
        if (!isName(name) || isGap(first, second, third)) {
            throw new IllegalArgumentException("no such call");
        }
        needWithin(what, 4);
        caller.take(kinds.receiver(type), first, second, third);
        int mark = forms.count;
        int answer = caller.choose(membersNamed(type, name));
        if (what != 0) {
            answer = answer < 0 ? NONE : caller.answer(answer, what);
        }
        forms.release(mark);
        return answer;
    }

    public int members(int type, int name) throws IndexOutOfBoundsException, IllegalArgumentException {
        needType(type);
        if (!isName(name)) {
            throw new IllegalArgumentException("no such name");
        }
        return membersNamed(type, name);
    }

    // ---- all

    public int fault(int k, int what) throws IndexOutOfBoundsException, IllegalArgumentException {
        if (k < 0 || k >= faults.count) {
            throw new IndexOutOfBoundsException("no such fault");
        }
        needWithin(what, 2);
        switch (what) {
            case 0:
                return faults.numbers[k];
            case 1:
                return faults.kinds[k];
            default:
                return faults.methods[k];
        }
    }

    public int many(int what) throws IllegalArgumentException {
        needWithin(what, 6);
        switch (what) {
            case 0:
                return kinds.count;
            case 1:
                return forms.count;
            case 2:
                return routines.count;
            case 3:
                return faults.count;
            case 4:
                return review.allBridges();
            case 5:
                return Integer.bitCount(kinds.sealedOnes);
            default:
                return order.pairs();
        }
    }

    public double meanMembers() {
        int sum = 0;
        for (int kind = 0; kind < kinds.count; kind++) {
            sum += membersOfKind(kind);
        }
        return kinds.count == 0 ? 0.0 : (double) sum / kinds.count;
    }

    // ---- what would be (nothing is changed)

    public int pairsWith(int kind, int parameter, int variance)
            throws IndexOutOfBoundsException, IllegalArgumentException {
        needParameter(kind, parameter);
        needWithin(variance, IN);
        int told = kinds.variances[2 * kind + parameter];
        kinds.variances[2 * kind + parameter] = variance;
        int pairs = order.pairs();
        kinds.variances[2 * kind + parameter] = told;
        return pairs;
    }

    public int faultsWithout(int method) throws IndexOutOfBoundsException {
        needMethod(method);
        return faults.countWithout(method, review);
    }

    public long digest() {
        long d = 58134;
        for (int what = 0; what <= 6; what++) {
            d = d * 31 + many(what);
        }
        for (int kind = 0; kind < kinds.count; kind++) {
            for (int what = 0; what <= 7; what++) {
                d = d * 31 + ofKind(kind, what);
            }
            d = d * 31 + (areAll(OBJECT, 1 << kind) ? 1 : 0);
        }
        for (int type = 0; type < forms.count; type++) {
            for (int what = 0; what <= 5; what++) {
                d = d * 31 + ofType(type, what);
            }
            for (int smaller = 0; smaller < type; smaller++) {
                d = d * 31 + join(type, smaller);
            }
        }
        for (int method = 0; method < routines.count; method++) {
            for (int what = 0; what <= 5; what++) {
                d = d * 31 + ofMethod(method, what);
            }
            d = d * 31 + faultsWithout(method);
        }
        for (int k = 0; k < faults.count; k++) {
            d = d * 31 + faults.numbers[k];
            d = d * 31 + faults.kinds[k];
            d = d * 31 + faults.methods[k];
        }
        return d;
    }

    // ---- what a call needs of its arguments

    private void needKind(int kind) {
        if (kind < 0 || kind >= kinds.count) {
            throw new IndexOutOfBoundsException("no such class");
        }
    }

    private void needParameter(int kind, int parameter) {
        needKind(kind);
        if (parameter < 0 || parameter >= kinds.parameters[kind]) {
            throw new IndexOutOfBoundsException("no such parameter");
        }
    }

    private void needType(int type) {
        if (type < 0 || type >= forms.count) {
            throw new IndexOutOfBoundsException("no such type");
        }
    }

    private void needTypeOrNone(int type) {
        if (type != NONE) {
            needType(type);
        }
    }

    private void needMethod(int method) {
        if (method < 0 || method >= routines.count) {
            throw new IndexOutOfBoundsException("no such method");
        }
    }

    private static void needWithin(int what, int last) {
        if (what < 0 || what > last) {
            throw new IllegalArgumentException("not asked so");
        }
    }

    private static boolean isVarianceOrNone(int number) {
        return number >= NONE && number <= IN;
    }

    private static boolean isName(int name) {
        return name >= 0 && name < NAMES;
    }

    private static boolean isGap(int first, int second, int third) {
        return (first == NONE && second != NONE) || (second == NONE && third != NONE);
    }

    /** Whether an argument may be told for that place: just 0 where the class has no parameter. */
    private boolean isArgument(int kind, int which, int argument) {
        if (which >= kinds.parameters[kind]) {
            return argument == 0;
        }
        return argument == ANY || (argument >= FIRST_ARGUMENT && argument / 3 < forms.count);
    }

    /** Whether a method of the class may have the type as a formal or result; NONE is none to look at. */
    private boolean isUsable(int type, int kind) {
        return type == NONE || (type != NULL && isOwnedBy(type, kind));
    }

    /** Whether the type has no parameters but those of the class; VARIABLE is a parameter of none. */
    private boolean isOwnedBy(int type, int kind) {
        return (forms.owners[type] & ~(1 << kind) & ~(1 << VARIABLE_KIND)) == 0;
    }

    private boolean isExtendable(int type, int kind) {
        return forms.what[type] == IS_CLASS && forms.owner[type] < kind && type != BOX && isSimpleOf(type, kind);
    }

    private boolean isSimpleOf(int type, int kind) {
        return isOwnedBy(type, kind) && isSimpleArgument(forms.first[type]) && isSimpleArgument(forms.second[type]);
    }

    private boolean isSimpleArgument(int argument) {
        if (argument <= 0) {
            return true;
        }
        int type = argument / 3;
        return forms.owners[type] == 0 || (forms.what[type] == IS_PARAMETER && argument % 3 == EXACT);
    }

    // ---- what several calls ask

    /** The number of the type, told now if it is new. */
    private int tell(int what, int owner, int first, int second) {
        int type = forms.make(what, owner, first, second);
        if (forms.count > MOST_TYPES) {
            forms.release(MOST_TYPES);
            throw new IllegalStateException("too many types");
        }
        return type;
    }

    private boolean isKeeping(int type) {
        int mark = forms.count;
        boolean isKeeping = order.isKeeping(type, 0);
        forms.release(mark);
        return isKeeping;
    }

    private int membersOfKind(int kind) {
        return Integer.bitCount(review.membersOf(kind));
    }

    private int membersNamed(int type, int name) {
        return review.membersOf(forms.owner[kinds.receiver(type)]) & routines.setNamed(name);
    }

    /**
     * The types: those that were told, by their numbers, and behind them those that a call makes for
     * itself and gives back at its end. Each is there once, so two are the same if their numbers are.
     */
    private static final class Forms {
        private static final int ROOM = 256;
        private static final int DEEPEST = 30;
        private static final int CHAINS = 64;
        private static final int MODULUS = 99991;

        final int[] what = new int[ROOM];
        final int[] owner = new int[ROOM];
        final int[] first = new int[ROOM];
        final int[] second = new int[ROOM];
        final int[] deep = new int[ROOM];
        final int[] code = new int[ROOM];
        /** The set of classes of which parameters are in it; VARIABLE counts as one of VARIABLE_KIND. */
        final int[] owners = new int[ROOM];
        private final int[] next = new int[ROOM];
        private final int[] heads = new int[CHAINS];
        int count;

        Forms() {
            Arrays.fill(heads, NONE);
            make(IS_INT, 0, 0, 0);
            make(IS_NULL, 0, 0, 0);
            make(IS_CLASS, OBJECT_KIND, 0, 0);
            make(IS_CLASS, BOX_KIND, 0, 0);
            make(IS_VARIABLE, VARIABLE_KIND, 0, 0);
        }

        /** What would be too deep or too much for any types that can be told is refused: OBJECT. */
        int make(int sort, int kind, int one, int two) {
            int chain = chain(sort, kind, one, two);
            int link = heads[chain];
            for (int step = 0; step < count && link >= 0; step++) {
                if (what[link] == sort && owner[link] == kind && first[link] == one && second[link] == two) {
                    return link;
                }
                link = next[link];
            }
            int deepness = deepOf(sort, one, two);
            if (count >= ROOM || deepness > DEEPEST) {
                return OBJECT;
            }
            int form = count++;
            what[form] = sort;
            owner[form] = kind;
            first[form] = one;
            second[form] = two;
            deep[form] = deepness;
            code[form] = codeOf(sort, kind, one, two);
            owners[form] = ownersOf(sort, kind, one, two);
            next[form] = heads[chain];
            heads[chain] = form;
            return form;
        }

        /** Gives back what was made since there were that many: the last one stands first in its chain. */
        void release(int mark) {
            while (count > mark && count > 0) {
                count--;
                heads[chain(what[count], owner[count], first[count], second[count])] = next[count];
            }
        }

        private static int chain(int sort, int kind, int one, int two) {
            return (((sort * 31 + kind) * 31 + one) * 31 + two) & (CHAINS - 1);
        }

        int deepOf(int sort, int one, int two) {
            if (sort == IS_ARRAY) {
                return 1 + deep[one];
            }
            int deepest = 0;
            if (sort == IS_CLASS && one > 0) {
                deepest = deep[one / 3];
            }
            if (sort == IS_CLASS && two > 0 && deep[two / 3] > deepest) {
                deepest = deep[two / 3];
            }
            return 1 + deepest;
        }

        private int codeOf(int sort, int kind, int one, int two) {
            switch (sort) {
                case IS_INT:
                    return 1;
                case IS_NULL:
                    return 2;
                case IS_VARIABLE:
                    return 3;
                case IS_PARAMETER:
                    return 10 + 2 * kind + one;
                case IS_ARRAY:
                    return (17 * code[one] + 5) % MODULUS;
                default:
                    break;
            }
            int sum = 50 + kind;
            for (int which = 0; which < 2; which++) {
                int argument = which == 0 ? one : two;
                if (argument != 0) {
                    int its = argument == ANY ? 7 : 8 + 3 * code[argument / 3] + argument % 3;
                    sum = (31 * sum + its) % MODULUS;
                }
            }
            return sum;
        }

        private int ownersOf(int sort, int kind, int one, int two) {
            switch (sort) {
                case IS_PARAMETER:
                case IS_VARIABLE:
                    return 1 << kind;
                case IS_CLASS:
                    return (one > 0 ? owners[one / 3] : 0) | (two > 0 ? owners[two / 3] : 0);
                case IS_ARRAY:
                    return owners[one];
                default:
                    return 0;
            }
        }

        /** The type with these arguments put in for the parameters of that class. */
        private int put(int form, int kind, int one, int two, int depth) {
            if ((owners[form] >> kind & 1) == 0 || depth > DEEPEST) {
                return form;
            }
            switch (what[form]) {
                case IS_CLASS:
                    return make(IS_CLASS, owner[form], putIntoArgument(first[form], kind, one, two, depth),
                            putIntoArgument(second[form], kind, one, two, depth));
                case IS_ARRAY:
                    return make(IS_ARRAY, 0, put(first[form], kind, one, two, depth + 1), 0);
                default:
                    int argument = first[form] == 0 ? one : two;
                    return argument > 0 && argument % 3 != IN ? argument / 3 : OBJECT;
            }
        }

        private int putIntoArgument(int argument, int kind, int one, int two, int depth) {
            if (argument <= 0) {
                return argument;
            }
            int type = argument / 3;
            int mode = argument % 3;
            boolean isParameter = what[type] == IS_PARAMETER || what[type] == IS_VARIABLE;
            if (isParameter && owner[type] == kind && mode == EXACT) {
                return first[type] == 0 ? one : two;
            }
            return 3 * put(type, kind, one, two, depth + 1) + mode;
        }
    }

    /** The classes, what they extend, and as what each of them is seen from those above it. */
    private static final class Kinds {
        private final Forms forms;
        final int[] parameters = new int[MOST_KINDS];
        final int[] variances = new int[2 * MOST_KINDS];
        final int[] limits = new int[2 * MOST_KINDS];
        final int[] told = new int[MOST_KINDS];
        final int[] extended = new int[MOST_EXTENDED * MOST_KINDS];
        final int[] above = new int[MOST_KINDS];
        /**
         * The arguments of each class as each other one: as they were told, or, below NONE, that the
         * argument for a parameter of the class itself stands there.
         */
        private final int[] views = new int[2 * MOST_KINDS * MOST_KINDS];
        int sealedOnes;
        int count;

        Kinds(Forms forms) {
            this.forms = forms;
            Arrays.fill(limits, OBJECT);
            Arrays.fill(extended, OBJECT);
            add(NONE, NONE, false);
            add(NONE, NONE, false);
        }

        int add(int first, int second, boolean isSealed) {
            int kind = count++;
            parameters[kind] = first == NONE ? 0 : second == NONE ? 1 : 2;
            variances[2 * kind] = Math.max(first, 0);
            variances[2 * kind + 1] = Math.max(second, 0);
            if (isSealed) {
                sealedOnes |= 1 << kind;
            }
            settle(kind);
            return kind;
        }

        void lengthen(int kind, int type) {
            extended[MOST_EXTENDED * kind + told[kind]] = type;
            told[kind]++;
            for (int each = kind; each < count; each++) {
                settle(each);
            }
        }

        int extendedCount(int kind) {
            return kind == OBJECT_KIND ? 0 : Math.max(told[kind], 1);
        }

        int extendedAt(int kind, int place) {
            return extended[MOST_EXTENDED * kind + place];
        }

        boolean isToldOf(int kind, int extendedKind) {
            for (int place = 0; place < told[kind]; place++) {
                if (forms.owner[extendedAt(kind, place)] == extendedKind) {
                    return true;
                }
            }
            return false;
        }

        boolean isOrHasAbove(int kind, int other) {
            return ((1 << kind | above[kind]) >> other & 1) != 0;
        }

        /** The set of classes that extend a type of it. */
        int directlyBelow(int kind) {
            int set = 0;
            for (int each = kind + 1; each < count; each++) {
                for (int place = 0; place < extendedCount(each); place++) {
                    if (forms.owner[extendedAt(each, place)] == kind) {
                        set |= 1 << each;
                    }
                }
            }
            return set;
        }

        /** What a class extends has a smaller number, so the classes before it are settled by then. */
        private void settle(int kind) {
            above[kind] = 0;
            for (int place = 0; place < extendedCount(kind); place++) {
                int other = forms.owner[extendedAt(kind, place)];
                above[kind] |= 1 << other | above[other];
            }
            for (int other = 0; other <= kind; other++) {
                for (int which = 0; which < parameters[other]; which++) {
                    views[2 * (MOST_KINDS * kind + other) + which] = view(kind, other, which);
                }
            }
        }

        private int view(int kind, int other, int which) {
            if (kind == other) {
                return NONE - 1 - which;
            }
            for (int place = 0; place < extendedCount(kind); place++) {
                int type = extendedAt(kind, place);
                if (isOrHasAbove(forms.owner[type], other)) {
                    return marked(argumentAs(type, other, which));
                }
            }
            return NONE;
        }

        /** What is extended is simple, so a parameter in it is the whole argument. */
        private int marked(int argument) {
            if (argument > 0 && forms.what[argument / 3] == IS_PARAMETER) {
                return NONE - 1 - forms.first[argument / 3];
            }
            return argument;
        }

        /** The argument of a type of a class as a class that is above it, or its own one. */
        int argumentAs(int form, int kind, int which) {
            int view = views[2 * (MOST_KINDS * forms.owner[form] + kind) + which];
            if (view >= NONE) {
                return view;
            }
            return view == NONE - 1 ? forms.first[form] : forms.second[form];
        }

        int formAs(int form, int kind) {
            return forms.make(IS_CLASS, kind, argumentAs(form, kind, 0), argumentAs(form, kind, 1));
        }

        /** The class with its own parameters as arguments, exact. */
        int selfForm(int kind) {
            int first = parameters[kind] > 0 ? 3 * forms.make(IS_PARAMETER, kind, 0, 0) + EXACT : 0;
            int second = parameters[kind] > 1 ? 3 * forms.make(IS_PARAMETER, kind, 1, 0) + EXACT : 0;
            return forms.make(IS_CLASS, kind, first, second);
        }

        int limitOf(int parameter) {
            return limits[2 * forms.owner[parameter] + forms.first[parameter]];
        }

        /** The type of a class whose members are those of the type. */
        int receiver(int type) {
            if (forms.what[type] == IS_CLASS) {
                return type;
            }
            return forms.what[type] == IS_PARAMETER ? limitOf(type) : OBJECT;
        }
    }

    /** What is below what, and what else follows from that of types alone. */
    private static final class Order {
        private static final int DEEPEST_ASKED = 8;
        private static final int DEEPEST_JOINED = 40;
        private static final int DEEPEST_ERASED = 40;

        private final Forms forms;
        private final Kinds kinds;

        Order(Forms forms, Kinds kinds) {
            this.forms = forms;
            this.kinds = kinds;
        }

        private boolean isUnder(int one, int other, int depth) {
            if (depth >= DEEPEST_ASKED) {
                return false;
            }
            if (one == other) {
                return true;
            }
            if (one == INT || other == INT) {
                return false;
            }
            if (one == NULL || other == OBJECT) {
                return true;
            }
            switch (forms.what[one]) {
                case IS_PARAMETER:
                    return isUnder(kinds.limitOf(one), other, depth + 1);
                case IS_ARRAY:
                    return areArraysOfReferences(one, other)
                            && isUnder(forms.first[one], forms.first[other], depth + 1);
                case IS_CLASS:
                    return forms.what[other] == IS_CLASS && isClassUnder(one, other, depth);
                default:
                    return false;
            }
        }

        private boolean areArraysOfReferences(int one, int other) {
            return forms.what[one] == IS_ARRAY && forms.what[other] == IS_ARRAY
                    && forms.first[one] != INT && forms.first[other] != INT;
        }

        private boolean isClassUnder(int one, int other, int depth) {
            int kind = forms.owner[other];
            if (!kinds.isOrHasAbove(forms.owner[one], kind)) {
                return false;
            }
            for (int which = 0; which < kinds.parameters[kind]; which++) {
                int argument = kinds.argumentAs(one, kind, which);
                int wanted = which == 0 ? forms.first[other] : forms.second[other];
                if (!isWithin(argument, wanted, kinds.variances[2 * kind + which], depth)) {
                    return false;
                }
            }
            return true;
        }

        private boolean isWithin(int toldArgument, int toldOther, int variance, int depth) {
            int argument = varied(toldArgument, variance);
            int other = varied(toldOther, variance);
            if (other == ANY) {
                return true;
            }
            int type = other / 3;
            int mode = other % 3;
            if (mode == OUT && type == OBJECT) {
                return true;
            }
            if (argument == ANY) {
                return false;
            }
            if (mode == EXACT) {
                return argument == other;
            }
            if (argument % 3 != EXACT && argument % 3 != mode) {
                return false;
            }
            return mode == OUT ? isUnder(argument / 3, type, depth + 1) : isUnder(type, argument / 3, depth + 1);
        }

        private static int varied(int argument, int variance) {
            return argument > 0 && argument % 3 == EXACT ? argument + variance : argument;
        }

        int pairs() {
            int pairs = 0;
            for (int one = 0; one < forms.count; one++) {
                for (int other = 0; other < forms.count; other++) {
                    if (one != other && isUnder(one, other, 0)) {
                        pairs++;
                    }
                }
            }
            return pairs;
        }

        /** The join; an inner one is asked for an argument of another one, and asks for none itself. */
        private int joined(int one, int other, boolean isInner, int depth) {
            if (isUnder(one, other, 0)) {
                return other;
            }
            if (isUnder(other, one, 0)) {
                return one;
            }
            if (depth > DEEPEST_JOINED) {
                return OBJECT;
            }
            if (one == INT || forms.what[one] == IS_PARAMETER) {
                return joined(one == INT ? BOX : kinds.limitOf(one), other, isInner, depth + 1);
            }
            if (other == INT || forms.what[other] == IS_PARAMETER) {
                return joined(one, other == INT ? BOX : kinds.limitOf(other), isInner, depth + 1);
            }
            if (areArraysOfReferences(one, other)) {
                return forms.make(IS_ARRAY, 0, joined(forms.first[one], forms.first[other], isInner, depth + 1), 0);
            }
            if (forms.what[one] == IS_CLASS && forms.what[other] == IS_CLASS) {
                int kind = lowestShared(forms.owner[one], forms.owner[other]);
                return forms.make(IS_CLASS, kind, joinedArgument(one, other, kind, 0, isInner, depth),
                        joinedArgument(one, other, kind, 1, isInner, depth));
            }
            return OBJECT;
        }

        /** Of the classes that both are, or have above them, above no other such one: the first. */
        private int lowestShared(int one, int other) {
            int shared = (1 << one | kinds.above[one]) & (1 << other | kinds.above[other]);
            int higher = 0;
            for (int kind = 0; kind < kinds.count; kind++) {
                if ((shared >> kind & 1) != 0) {
                    higher |= kinds.above[kind];
                }
            }
            for (int kind = 0; kind < kinds.count; kind++) {
                if (((shared & ~higher) >> kind & 1) != 0) {
                    return kind;
                }
            }
            return OBJECT_KIND;
        }

        private int joinedArgument(int one, int other, int kind, int which, boolean isInner, int depth) {
            int first = kinds.argumentAs(one, kind, which);
            int second = kinds.argumentAs(other, kind, which);
            if (first == second) {
                return first;
            }
            boolean isIn = kinds.variances[2 * kind + which] == IN;
            if (isInner || isIn || !isExactOrOut(first) || !isExactOrOut(second)) {
                return ANY;
            }
            return 3 * joined(first / 3, second / 3, true, depth + 1) + OUT;
        }

        private static boolean isExactOrOut(int argument) {
            return argument > 0 && argument % 3 != IN;
        }

        /** Whether the type keeps its bounds; what it makes for that, the caller gives back. */
        private boolean isKeeping(int type, int depth) {
            if (depth > DEEPEST_TOLD) {
                return false;
            }
            if (forms.what[type] == IS_ARRAY) {
                return isKeeping(forms.first[type], depth + 1);
            }
            return forms.what[type] != IS_CLASS
                    || (isArgumentKeeping(type, 0, depth) && isArgumentKeeping(type, 1, depth));
        }

        private boolean isArgumentKeeping(int type, int which, int depth) {
            int argument = which == 0 ? forms.first[type] : forms.second[type];
            if (argument <= 0) {
                return true;
            }
            if (!isKeeping(argument / 3, depth + 1)) {
                return false;
            }
            if (argument % 3 == IN) {
                return true;
            }
            int kind = forms.owner[type];
            int limit = forms.put(kinds.limits[2 * kind + which], kind, forms.first[type], forms.second[type], 0);
            return isUnder(argument / 3, limit, 0);
        }

        /** The erased type, by the bound that VARIABLE has where it stands. */
        int erased(int type, int limit) {
            int arrays = 0;
            int inmost = type;
            while (forms.what[inmost] == IS_ARRAY && arrays < DEEPEST_ERASED) {
                inmost = forms.first[inmost];
                arrays++;
            }
            return 1000 * arrays + erasedInmost(inmost, limit);
        }

        private int erasedInmost(int type, int limit) {
            switch (forms.what[type]) {
                case IS_INT:
                    return 100;
                case IS_NULL:
                    return 101;
                case IS_CLASS:
                    return forms.owner[type];
                case IS_PARAMETER:
                    return forms.owner[kinds.limitOf(type)];
                default:
                    return forms.owner[limit];
            }
        }

        /** Whether the classes of the set are all that the type can be. */
        boolean isCovered(int type, int set) {
            if (forms.what[type] != IS_CLASS) {
                return false;
            }
            int kind = forms.owner[type];
            if (isNamed(kind, set)) {
                return true;
            }
            if ((kinds.sealedOnes >> kind & 1) == 0) {
                return false;
            }
            int open = kinds.directlyBelow(kind) & ~coveredBelow(kind, set);
            for (int below = kind + 1; below < kinds.count; below++) {
                if ((open >> below & 1) != 0 && !isImpossible(below, type)) {
                    return false;
                }
            }
            return true;
        }

        private boolean isNamed(int kind, int set) {
            return ((1 << kind | kinds.above[kind]) & set) != 0;
        }

        /** What extends a class has a greater number, so from the last one on all are known by then. */
        private int coveredBelow(int kind, int set) {
            int covered = 0;
            for (int each = kinds.count - 1; each > kind; each--) {
                boolean isSealed = (kinds.sealedOnes >> each & 1) != 0;
                if (isNamed(each, set) || (isSealed && (kinds.directlyBelow(each) & ~covered) == 0)) {
                    covered |= 1 << each;
                }
            }
            return covered;
        }

        /** Whether an argument of what the class extends speaks against its being of that type. */
        private boolean isImpossible(int below, int type) {
            int kind = forms.owner[type];
            for (int place = 0; place < kinds.extendedCount(below); place++) {
                int extended = kinds.extendedAt(below, place);
                if (forms.owner[extended] == kind
                        && (isAgainst(forms.first[extended], forms.first[type], kinds.variances[2 * kind])
                        || isAgainst(forms.second[extended], forms.second[type], kinds.variances[2 * kind + 1]))) {
                    return true;
                }
            }
            return false;
        }

        private boolean isAgainst(int argument, int wanted, int variance) {
            if (argument == 0) {
                return false;
            }
            boolean isFixed = argument == ANY || forms.owners[argument / 3] == 0;
            return isFixed && !isWithin(argument, wanted, variance, 0);
        }
    }

    /** The methods as they were told. */
    private static final class Routines {
        final int[] kinds = new int[MOST_METHODS];
        final int[] names = new int[MOST_METHODS];
        final int[] formals = new int[MOST_FORMALS * MOST_METHODS];
        final int[] formalCount = new int[MOST_METHODS];
        final int[] results = new int[MOST_METHODS];
        final int[] limits = new int[MOST_METHODS];
        int manyOnes;
        int count;

        void add(int kind, int name, int result, boolean isMany) {
            int method = count++;
            kinds[method] = kind;
            names[method] = name;
            results[method] = result;
            limits[method] = OBJECT;
            if (isMany) {
                manyOnes |= 1 << method;
            }
        }

        /** One more formal of the last method, if there is one. */
        void addFormal(int type) {
            int method = count - 1;
            if (type != NONE && method >= 0 && formalCount[method] < MOST_FORMALS) {
                formals[MOST_FORMALS * method + formalCount[method]] = type;
                formalCount[method]++;
            }
        }

        int formalAt(int method, int place) {
            return formals[MOST_FORMALS * method + place];
        }

        boolean isMany(int method) {
            return (manyOnes >> method & 1) != 0;
        }

        boolean areAlike(int one, int other) {
            return names[one] == names[other] && formalCount[one] == formalCount[other];
        }

        /** The set of methods of these classes. */
        int setOf(int kindSet) {
            int set = 0;
            for (int method = 0; method < count; method++) {
                if ((kindSet >> kinds[method] & 1) != 0) {
                    set |= 1 << method;
                }
            }
            return set;
        }

        int setNamed(int name) {
            int set = 0;
            for (int method = 0; method < count; method++) {
                if (names[method] == name) {
                    set |= 1 << method;
                }
            }
            return set;
        }
    }

    /** What the methods and classes are to one another, looked at anew when something was told. */
    private static final class Review {
        private final Forms forms;
        private final Kinds kinds;
        private final Order order;
        private final Routines routines;
        private final Faults faults;
        /** Of each method, the sets of those that it overrides, clashes with, and has a worse result than. */
        final int[] overridden = new int[MOST_METHODS];
        final int[] clashing = new int[MOST_METHODS];
        final int[] worse = new int[MOST_METHODS];
        final int[] bridges = new int[MOST_METHODS];
        final boolean[] isMisplaced = new boolean[MOST_METHODS];
        final boolean[] isLoose = new boolean[MOST_METHODS];
        final boolean[] isTwofold = new boolean[MOST_KINDS];
        final int[] looseExtended = new int[MOST_KINDS];
        private final int[] reached = new int[MOST_KINDS];
        private final int[] erasedFormals = new int[MOST_FORMALS * MOST_METHODS];
        final int[] erasedResults = new int[MOST_METHODS];

        Review(Forms forms, Kinds kinds, Order order, Routines routines, Faults faults) {
            this.forms = forms;
            this.kinds = kinds;
            this.order = order;
            this.routines = routines;
            this.faults = faults;
        }

        void refresh() {
            int mark = forms.count;
            for (int kind = 0; kind < kinds.count; kind++) {
                isTwofold[kind] = isReachedTwofold(kind);
                looseExtended[kind] = countLooseExtended(kind);
                forms.release(mark);
            }
            for (int method = 0; method < routines.count; method++) {
                erase(method);
                isMisplaced[method] = isOneMisplaced(method);
                isLoose[method] = isOneLoose(method);
                forms.release(mark);
            }
            for (int method = 0; method < routines.count; method++) {
                lookAtOthers(method);
                bridges[method] = countBridges(method);
                forms.release(mark);
            }
            faults.list(this);
        }

        int membersOf(int kind) {
            int all = routines.setOf(1 << kind | kinds.above[kind]);
            int replaced = 0;
            for (int method = 0; method < routines.count; method++) {
                if ((all >> method & 1) != 0) {
                    replaced |= overridden[method];
                }
            }
            return all & ~replaced;
        }

        int bridgesOfKind(int kind) {
            int sum = 0;
            for (int method = 0; method < routines.count; method++) {
                if (routines.kinds[method] == kind) {
                    sum += bridges[method];
                }
            }
            return sum;
        }

        int allBridges() {
            int sum = 0;
            for (int method = 0; method < routines.count; method++) {
                sum += bridges[method];
            }
            return sum;
        }

        /** Goes up by every way, from greater numbers to smaller ones, until a class is reached anew and otherwise. */
        private boolean isReachedTwofold(int kind) {
            Arrays.fill(reached, NONE);
            reached[kind] = kinds.selfForm(kind);
            for (int each = kind; each > OBJECT_KIND; each--) {
                int from = reached[each];
                for (int place = 0; from != NONE && place < kinds.extendedCount(each); place++) {
                    int type = forms.put(kinds.extendedAt(each, place), each, forms.first[from],
                            forms.second[from], 0);
                    int other = forms.owner[type];
                    if (reached[other] != NONE && reached[other] != type) {
                        return true;
                    }
                    reached[other] = type;
                }
            }
            return false;
        }

        private int countLooseExtended(int kind) {
            int sum = 0;
            for (int place = 0; place < kinds.extendedCount(kind); place++) {
                if (!order.isKeeping(kinds.extendedAt(kind, place), 0)) {
                    sum++;
                }
            }
            return sum;
        }

        private boolean isOneMisplaced(int method) {
            for (int place = 0; place < routines.formalCount[method]; place++) {
                if (isParameterWith(routines.formalAt(method, place), OUT)) {
                    return true;
                }
            }
            return isParameterWith(routines.results[method], IN);
        }

        private boolean isParameterWith(int type, int variance) {
            return forms.what[type] == IS_PARAMETER
                    && kinds.variances[2 * forms.owner[type] + forms.first[type]] == variance;
        }

        private boolean isOneLoose(int method) {
            for (int place = 0; place < routines.formalCount[method]; place++) {
                if (!order.isKeeping(routines.formalAt(method, place), 0)) {
                    return true;
                }
            }
            return !order.isKeeping(routines.results[method], 0);
        }

        private void lookAtOthers(int method) {
            overridden[method] = 0;
            clashing[method] = 0;
            worse[method] = 0;
            int self = kinds.selfForm(routines.kinds[method]);
            for (int other = 0; other < routines.count; other++) {
                if (other == method || !routines.areAlike(method, other)) {
                    continue;
                }
                if (isOverriding(method, other, self)) {
                    overridden[method] |= 1 << other;
                    worse[method] |= isWorse(method, other, self) ? 1 << other : 0;
                } else if (isAbove(method, other) || isBeforeInClass(method, other)) {
                    clashing[method] |= areFormalsErasedAlike(method, other) ? 1 << other : 0;
                }
            }
        }

        private boolean isAbove(int method, int other) {
            return (kinds.above[routines.kinds[method]] >> routines.kinds[other] & 1) != 0;
        }

        private boolean isBeforeInClass(int method, int other) {
            return routines.kinds[method] == routines.kinds[other] && other < method;
        }

        private boolean isOverriding(int method, int other, int self) {
            if (!isAbove(method, other)) {
                return false;
            }
            int kind = routines.kinds[other];
            int first = kinds.argumentAs(self, kind, 0);
            int second = kinds.argumentAs(self, kind, 1);
            for (int place = 0; place < routines.formalCount[method]; place++) {
                int formal = forms.put(routines.formalAt(other, place), kind, first, second, 0);
                if (formal != routines.formalAt(method, place)) {
                    return false;
                }
            }
            return true;
        }

        private boolean isWorse(int method, int other, int self) {
            int kind = routines.kinds[other];
            int first = kinds.argumentAs(self, kind, 0);
            int second = kinds.argumentAs(self, kind, 1);
            int result = forms.put(routines.results[other], kind, first, second, 0);
            return !order.isUnder(routines.results[method], result, 0);
        }

        private void erase(int method) {
            int limit = routines.limits[method];
            erasedResults[method] = order.erased(routines.results[method], limit);
            for (int place = 0; place < routines.formalCount[method]; place++) {
                int formal = routines.formalAt(method, place);
                erasedFormals[MOST_FORMALS * method + place] = order.erased(formal, limit);
            }
        }

        private boolean areFormalsErasedAlike(int one, int other) {
            for (int place = 0; place < routines.formalCount[one]; place++) {
                if (erasedFormals[MOST_FORMALS * one + place] != erasedFormals[MOST_FORMALS * other + place]) {
                    return false;
                }
            }
            return true;
        }

        private boolean areErasedAlike(int one, int other) {
            return erasedResults[one] == erasedResults[other] && areFormalsErasedAlike(one, other);
        }

        private int countBridges(int method) {
            int sum = 0;
            for (int other = 0; other < routines.count; other++) {
                if (isOverridden(method, other) && !areErasedAlike(method, other)
                        && !isCountedBefore(method, other)) {
                    sum++;
                }
            }
            return sum;
        }

        private boolean isCountedBefore(int method, int other) {
            for (int before = 0; before < other; before++) {
                if (isOverridden(method, before) && areErasedAlike(before, other)) {
                    return true;
                }
            }
            return false;
        }

        private boolean isOverridden(int method, int other) {
            return (overridden[method] >> other & 1) != 0;
        }
    }

    /** What is wrong, one after the other. */
    private static final class Faults {
        private static final int MOST = MOST_KINDS * (1 + MOST_EXTENDED) + MOST_METHODS * 4;
        private static final int TWOFOLD = 1;
        private static final int EXTENDED_LOOSE = 2;
        private static final int MISPLACED = 3;
        private static final int CLASHING = 4;
        private static final int WORSE = 5;
        private static final int LOOSE = 6;

        private final Kinds told;
        private final Routines routines;
        final int[] numbers = new int[MOST];
        final int[] kinds = new int[MOST];
        final int[] methods = new int[MOST];
        int count;

        Faults(Kinds told, Routines routines) {
            this.told = told;
            this.routines = routines;
        }

        void list(Review review) {
            count = 0;
            for (int kind = 0; kind < told.count; kind++) {
                addIf(review.isTwofold[kind], TWOFOLD, kind, NONE);
                for (int k = 0; k < review.looseExtended[kind]; k++) {
                    addIf(true, EXTENDED_LOOSE, kind, NONE);
                }
                listMethods(kind, review);
            }
        }

        private void listMethods(int kind, Review review) {
            for (int method = 0; method < routines.count; method++) {
                if (routines.kinds[method] == kind) {
                    addIf(review.isMisplaced[method], MISPLACED, kind, method);
                    addIf(review.isLoose[method], LOOSE, kind, method);
                    addIf(review.clashing[method] != 0, CLASHING, kind, method);
                    addIf(review.worse[method] != 0, WORSE, kind, method);
                }
            }
        }

        private void addIf(boolean isSo, int number, int kind, int method) {
            if (isSo && count < MOST) {
                numbers[count] = number;
                kinds[count] = kind;
                methods[count] = method;
                count++;
            }
        }

        int countOfKind(int kind) {
            int sum = 0;
            for (int k = 0; k < count; k++) {
                if (kinds[k] == kind) {
                    sum++;
                }
            }
            return sum;
        }

        /** How many there would be without the method: those of others that need it go, too. */
        int countWithout(int method, Review review) {
            int sum = 0;
            for (int k = 0; k < count; k++) {
                if (methods[k] != method && !isOnlyBecauseOf(method, k, review)) {
                    sum++;
                }
            }
            return sum;
        }

        private boolean isOnlyBecauseOf(int method, int k, Review review) {
            if (numbers[k] == CLASHING) {
                return review.clashing[methods[k]] == 1 << method;
            }
            return numbers[k] == WORSE && review.worse[methods[k]] == 1 << method;
        }
    }

    /** One call of a name: what is given, and the method that is chosen. */
    private static final class Caller {
        private static final int PHASES = 3;
        private static final int PHASE_OF_MANY = 3;

        private final Forms forms;
        private final Kinds kinds;
        private final Order order;
        private final Routines routines;
        private final int[] given = new int[MOST_FORMALS];
        /** Of each method, in the phase, the formals for what is given, with those of the receiver put in. */
        private final int[] formals = new int[MOST_FORMALS * MOST_METHODS];
        private int givenCount;
        private int receiver;
        private int phase;

        Caller(Forms forms, Kinds kinds, Order order, Routines routines) {
            this.forms = forms;
            this.kinds = kinds;
            this.order = order;
            this.routines = routines;
        }

        /** Takes the type of a class on which is called, and what is given; NONE ends that. */
        void take(int type, int first, int second, int third) {
            receiver = type;
            given[0] = first;
            given[1] = second;
            given[2] = third;
            givenCount = first == NONE ? 0 : second == NONE ? 1 : third == NONE ? 2 : 3;
        }

        /**
         * The method that is chosen of the set, NONE, or AMBIGUOUS; the phase stays that of the choice.
         * What is made for that, the caller gives back.
         */
        int choose(int set) {
            for (int asked = 1; asked <= PHASES; asked++) {
                phase = asked;
                int suiting = suitingOf(set);
                if (suiting != 0) {
                    return mostSpecialOf(suiting);
                }
            }
            return NONE;
        }

        /** What is asked of the method that was chosen: 1 phase, 2 result, 3 what VARIABLE is, 4 cast. */
        int answer(int method, int what) {
            if (what == 1) {
                return phase;
            }
            int standIn = standIn(method);
            if (what == 3) {
                return forms.code[standIn];
            }
            int told = routines.results[method];
            int result = forms.put(seen(method, told), VARIABLE_KIND, 3 * standIn, 0, 0);
            if (what == 2) {
                return forms.code[result];
            }
            int erased = order.erased(result, routines.limits[method]);
            return erased == order.erased(told, routines.limits[method]) ? NONE : erased;
        }

        private int suitingOf(int set) {
            int suiting = 0;
            for (int method = 0; method < routines.count; method++) {
                if ((set >> method & 1) != 0 && isCountRight(method)) {
                    layOutFormals(method);
                    int mark = forms.count;
                    suiting |= isSuiting(method) ? 1 << method : 0;
                    forms.release(mark);
                }
            }
            return suiting;
        }

        private boolean isCountRight(int method) {
            int count = routines.formalCount[method];
            if (phase == PHASE_OF_MANY) {
                return routines.isMany(method) && count > 0 && givenCount >= count - 1;
            }
            return count == givenCount;
        }

        private void layOutFormals(int method) {
            int last = routines.formalCount[method] - 1;
            for (int place = 0; place < givenCount; place++) {
                boolean isOfMany = phase == PHASE_OF_MANY && place >= last;
                int told = isOfMany ? forms.first[routines.formalAt(method, last)] : routines.formalAt(method, place);
                formals[MOST_FORMALS * method + place] = seen(method, told);
            }
        }

        /** A type of the method with the arguments of the receiver put in. */
        private int seen(int method, int type) {
            int kind = routines.kinds[method];
            return forms.put(type, kind, kinds.argumentAs(receiver, kind, 0), kinds.argumentAs(receiver, kind, 1), 0);
        }

        private boolean isSuiting(int method) {
            int standIn = standIn(method);
            if (standIn == INT || !order.isUnder(standIn, routines.limits[method], 0)) {
                return false;
            }
            for (int place = 0; place < givenCount; place++) {
                int formal = forms.put(formals[MOST_FORMALS * method + place], VARIABLE_KIND, 3 * standIn, 0, 0);
                if (!isFitting(given[place], formal)) {
                    return false;
                }
            }
            return true;
        }

        /** The type for which VARIABLE stands; INT, for which it never does, if nothing can be that. */
        private int standIn(int method) {
            int standIn = NONE;
            for (int place = 0; place < givenCount; place++) {
                if (formals[MOST_FORMALS * method + place] != VARIABLE) {
                    continue;
                }
                if (given[place] == INT && phase == 1) {
                    return INT;
                }
                int type = given[place] == INT ? BOX : given[place];
                standIn = standIn == NONE ? type : order.joined(standIn, type, false, 0);
            }
            return standIn == NONE ? OBJECT : standIn;
        }

        private boolean isFitting(int type, int formal) {
            if (order.isUnder(type, formal, 0)) {
                return true;
            }
            if (phase == 1) {
                return false;
            }
            if (type == INT) {
                return order.isUnder(BOX, formal, 0);
            }
            return formal == INT && type != NULL && order.isUnder(type, BOX, 0);
        }

        private int mostSpecialOf(int suiting) {
            int chosen = AMBIGUOUS;
            for (int method = 0; method < routines.count; method++) {
                if ((suiting >> method & 1) != 0 && isMoreSpecialThanAll(method, suiting & ~(1 << method))) {
                    if (chosen != AMBIGUOUS) {
                        return AMBIGUOUS;
                    }
                    chosen = method;
                }
            }
            return chosen;
        }

        private boolean isMoreSpecialThanAll(int method, int others) {
            for (int other = 0; other < routines.count; other++) {
                if ((others >> other & 1) != 0 && !isMoreSpecial(method, other)) {
                    return false;
                }
            }
            return true;
        }

        private boolean isMoreSpecial(int method, int other) {
            int mark = forms.count;
            boolean isMore = true;
            for (int place = 0; place < givenCount && isMore; place++) {
                int mine = formals[MOST_FORMALS * method + place];
                int its = formals[MOST_FORMALS * other + place];
                mine = forms.put(mine, VARIABLE_KIND, 3 * routines.limits[method], 0, 0);
                its = forms.put(its, VARIABLE_KIND, 3 * routines.limits[other], 0, 0);
                isMore = order.isUnder(mine, its, 0);
            }
            forms.release(mark);
            return isMore;
        }
    }
}
