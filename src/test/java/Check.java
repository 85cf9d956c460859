import java.util.NoSuchElementException;
import java.util.function.BooleanSupplier;
import java.util.function.IntSupplier;

/** Counts answers that are not as due. */
final class Check {
    private int wrong = 0;
    private int all = 0;

    void same(String what, int got, int due) {
        all++;
        if (got != due) {
            wrong++;
            System.out.println(what + " answered " + got + ", due is " + due);
        }
    }

    void yes(String what, boolean got) {
        same(what, got ? 1 : 0, 1);
    }

    void no(String what, boolean got) {
        same(what, got ? 1 : 0, 0);
    }

    /** The answers of asked(0), asked(1) .. are those, one behind the other. */
    void row(String what, java.util.function.IntUnaryOperator asked, int... due) {
        for (int i = 0; i < due.length; i++) {
            same(what + " [" + i + "]", asked.applyAsInt(i), due[i]);
        }
    }

    void noSuch(String what, IntSupplier call) {
        thrown(what, call, NoSuchElementException.class);
    }

    void illegal(String what, IntSupplier call) {
        thrown(what, call, IllegalArgumentException.class);
    }

    void noSuchIs(String what, BooleanSupplier call) {
        thrown(what, () -> call.getAsBoolean() ? 1 : 0, NoSuchElementException.class);
    }

    private void thrown(String what, IntSupplier call, Class<?> due) {
        all++;
        String got;
        try {
            got = String.valueOf(call.getAsInt());
        } catch (RuntimeException e) {
            got = e.getClass() == due ? "" : e.getClass().getName();
        }
        if (!got.isEmpty()) {
            wrong++;
            System.out.println(what + " answered " + got + ", due is " + due.getSimpleName());
        }
    }

    void end() {
        System.out.println(all + " answers, " + wrong + " not as due");
        if (wrong != 0) {
            System.exit(1);
        }
    }
}
