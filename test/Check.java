/** Counts the answers of one test, prints each that is not the one that is due, and ends with 1 if there was one. */
final class Check {
    interface Call {
        void make();
    }

    private final String name;
    private int asked;
    private int wrong;

    Check(String name) {
        this.name = name;
    }

    void due(String call, long answer, long due) {
        asked++;
        if (answer != due) {
            wrong++;
            System.out.println(name + ": " + call + " answers " + answer + ", due is " + due);
        }
    }

    void due(String call, boolean answer, boolean due) {
        due(call, answer ? 1 : 0, due ? 1 : 0);
    }

    void due(String call, String answer, String due) {
        asked++;
        if (!answer.equals(due)) {
            wrong++;
            System.out.println(name + ": " + call + " answers " + answer + ", due is " + due);
        }
    }

    /** A call that throws just that, and changes nothing of the object. */
    void refused(String call, BoundWright x, Class<? extends RuntimeException> due, Call refused) {
        long before = x.digest();
        due(call, thrownBy(refused), due.getSimpleName());
        due(call + ", then digest()", x.digest(), before);
    }

    void bounds(String call, BoundWright x, Call refused) {
        refused(call, x, IndexOutOfBoundsException.class, refused);
    }

    void argument(String call, BoundWright x, Call refused) {
        refused(call, x, IllegalArgumentException.class, refused);
    }

    void state(String call, BoundWright x, Call refused) {
        refused(call, x, IllegalStateException.class, refused);
    }

    /** The name of the exception that the call throws, or "nothing". */
    static String thrownBy(Call call) {
        try {
            call.make();
        } catch (RuntimeException | StackOverflowError thrown) {
            return thrown.getClass().getSimpleName();
        }
        return "nothing";
    }

    void end() {
        System.out.println(name + ": " + (asked - wrong) + " of " + asked + " answers are as due");
        if (wrong > 0) {
            System.exit(1);
        }
    }
}
