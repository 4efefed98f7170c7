import java.util.ArrayList;
import java.util.List;

/** All that can be asked of an object: each call with its answer, always in the same order. */
final class State {
    private static final int NAMES_ASKED = 4;

    private final Face face;
    private final List<String> all = new ArrayList<>();
    private final int kinds;
    private final int types;
    private final int methods;

    private State(Face face) {
        this.face = face;
        kinds = face.number("many", 0);
        types = face.number("many", 1);
        methods = face.number("many", 2);
    }

    static List<String> of(Face face) {
        State state = new State(face);
        state.askOfAll();
        state.askOfKinds();
        state.askOfTypes();
        state.askOfMethods();
        state.askCalls();
        return state.all;
    }

    private void ask(String name, Object... arguments) {
        StringBuilder call = new StringBuilder(name).append('(');
        for (int k = 0; k < arguments.length; k++) {
            call.append(k == 0 ? "" : ", ").append(arguments[k]);
        }
        all.add(call.append(") -> ").append(face.ask(name, arguments)).toString());
    }

    private void askOfAll() {
        ask("digest");
        ask("meanMembers");
        for (int what = 0; what <= 6; what++) {
            ask("many", what);
        }
        for (int k = 0; k <= face.number("many", 3); k++) {
            for (int what = 0; what <= 2; what++) {
                ask("fault", k, what);
            }
        }
    }

    private void askOfKinds() {
        for (int kind = 0; kind <= kinds; kind++) {
            for (int what = 0; what <= 7; what++) {
                ask("ofKind", kind, what);
            }
            for (int parameter = 0; parameter < 2; parameter++) {
                for (int variance = 0; variance <= 2; variance++) {
                    ask("pairsWith", kind, parameter, variance);
                }
            }
        }
    }

    private void askOfTypes() {
        for (int type = 0; type <= types; type++) {
            for (int what = 0; what <= 5; what++) {
                ask("ofType", type, what);
            }
            for (int other = 0; other < types; other++) {
                ask("isBelow", type, other);
                ask("join", type, other);
            }
            for (int kind = 0; kind < kinds; kind++) {
                ask("as", type, kind);
                ask("areAll", type, 1 << kind);
            }
            ask("areAll", type, 0);
            ask("areAll", type, 0b10101010101010 & (1 << kinds) - 4);
        }
    }

    private void askOfMethods() {
        for (int method = 0; method <= methods; method++) {
            for (int what = 0; what <= 5; what++) {
                ask("ofMethod", method, what);
            }
            ask("faultsWithout", method);
        }
        for (int type = 0; type < types; type++) {
            for (int name = 0; name < Promises.NAMES; name++) {
                ask("members", type, name);
            }
        }
    }

    private void askCalls() {
        for (int type = 0; type < types; type++) {
            for (int name = 0; name < NAMES_ASKED; name++) {
                for (int what = 0; what <= 4; what++) {
                    ask("call", type, name, -1, -1, -1, what);
                }
                for (int given = 0; given < types; given++) {
                    ask("call", type, name, given, -1, -1, 0);
                    ask("call", type, name, given, -1, -1, 2);
                    ask("call", type, name, given, types - 1 - given, -1, given % 5);
                    ask("call", type, name, type, given, given / 2, given % 5);
                }
            }
        }
    }
}
