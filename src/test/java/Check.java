import java.util.function.Consumer;
import java.util.function.Supplier;

/** Counts and prints the answers that are not as due, and ends the program by them. */
final class Check {
    private static int wrong = 0;

    interface Call {
        void run();
    }

    private Check() {
    }

    static void same(String call, long got, long due) {
        if (got != due) {
            fail(call + " answered " + got + ", due is " + due);
        }
    }

    static void same(String call, boolean got, boolean due) {
        if (got != due) {
            fail(call + " answered " + got + ", due is " + due);
        }
    }

    static void same(String what, String got, String due) {
        if (!got.equals(due)) {
            fail(what + " is\n" + got + "\ndue is\n" + due);
        }
    }

    /** That a call throws just this class of exception. */
    static void refused(String call, Class<? extends RuntimeException> due, Call run) {
        try {
            run.run();
            fail(call + " threw nothing, due is " + due.getSimpleName());
        } catch (RuntimeException e) {
            if (e.getClass() != due) {
                fail(call + " threw " + e.getClass().getSimpleName()
                        + ", due is " + due.getSimpleName());
            }
        }
    }

    /** That a call on a fresh object throws this, and that nothing then is answered otherwise. */
    static void refusedUnchanged(Supplier<AttributeKinds> made, String call,
            Class<? extends RuntimeException> due, Consumer<AttributeKinds> run) {
        Supplier<AttributeKinds> refusing = () -> {
            AttributeKinds x = made.get();
            refused(call, due, () -> run.accept(x));
            return x;
        };
        same("what is answered behind " + call, Answers.of(refusing.get()),
                Answers.of(made.get()));
        // Behind answers that may have been kept as well.
        AttributeKinds asked = made.get();
        String before = Answers.of(asked);
        refused(call, due, () -> run.accept(asked));
        same("what is answered again behind " + call, Answers.of(asked), before);
        same("what can be added behind " + call, Answers.additions(refusing.get()),
                Answers.additions(made.get()));
        same("which dependences are new behind " + call, Answers.dependences(refusing),
                Answers.dependences(made));
        same("which dependences can be behind " + call, Answers.laterDependences(refusing),
                Answers.laterDependences(made));
    }

    static void fail(String what) {
        wrong++;
        System.out.println(what);
    }

    static void end() {
        if (wrong != 0) {
            System.out.println(wrong + " wrong");
            System.exit(1);
        }
    }
}
