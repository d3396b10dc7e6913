import java.util.Objects;

/** What the tests of the project share: they print what is not as it is due, and end with exit code 1 then. */
final class Check {
    private static int wrong = 0;
    private static int checked = 0;

    private Check() {
    }

    interface Call {
        void make();
    }

    static void due(String what, Object got, Object due) {
        checked++;
        if (!Objects.equals(got, due)) {
            wrong++;
            System.out.println(what + " answered " + got + ", due is " + due);
        }
    }

    static void outOfBounds(String what, Call call) {
        due(what, thrownBy(call), IndexOutOfBoundsException.class);
    }

    static void illegalArgument(String what, Call call) {
        due(what, thrownBy(call), IllegalArgumentException.class);
    }

    static void illegalState(String what, Call call) {
        due(what, thrownBy(call), IllegalStateException.class);
    }

    // The class itself is compared: ArrayIndexOutOfBoundsException, say, would be the machine's own.
    static Class<?> thrownBy(Call call) {
        try {
            call.make();
            return null;
        } catch (RuntimeException e) {
            return e.getClass();
        }
    }

    static void finish(String test) {
        System.out.println(test + ": " + checked + " answers looked at, " + wrong + " wrong");
        System.exit(wrong == 0 && checked > 0 ? 0 : 1);
    }
}
