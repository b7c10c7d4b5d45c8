/** Counts what is not as due, and ends a test's main method. */
final class Check {
    private int asked;
    private int wrong;
    private String name = "";

    interface Call {
        void run();
    }

    /** What is asked from here on is told with this name ahead of its label. */
    void name(String newName) {
        name = newName.isEmpty() ? "" : newName + " | ";
    }

    int asked() {
        return asked;
    }

    void fail(String what) {
        asked++;
        tell(what);
    }

    void same(String label, long got, long due) {
        asked++;
        if (got != due) {
            tell(label + " answered " + got + ", due is " + due);
        }
    }

    void same(String label, String got, String due) {
        asked++;
        if (!got.equals(due)) {
            tell(label + " answered " + got + ", due is " + due);
        }
    }

    void sameBits(String label, double got, double due) {
        asked++;
        if (Double.doubleToRawLongBits(got) != Double.doubleToRawLongBits(due)) {
            tell(label + " answered " + got + ", due is " + due);
        }
    }

    void isTrue(String label, boolean holds) {
        asked++;
        if (!holds) {
            tell(label + " does not hold");
        }
    }

    /** The class must be the very one: a class below it would be another exception. */
    void throwsA(String label, Class<? extends RuntimeException> due, Call call) {
        asked++;
        try {
            call.run();
        } catch (RuntimeException e) {
            if (e.getClass() != due) {
                tell(label + " threw " + e.getClass().getName() + ", due is " + due.getName());
            }
            return;
        }
        tell(label + " threw nothing, due is " + due.getName());
    }

    void outOfRange(String label, Call call) {
        throwsA(label, IllegalArgumentException.class, call);
    }

    void noSuchCard(String label, Call call) {
        throwsA(label, java.util.NoSuchElementException.class, call);
    }

    private void tell(String what) {
        wrong++;
        if (wrong <= 40) {
            System.out.println("WRONG: " + name + what);
        }
    }

    boolean isAnyWrong() {
        return wrong > 0;
    }

    void end(String test) {
        System.out.println(test + ": " + asked + " asked, " + wrong + " wrong");
        if (wrong > 0) {
            System.exit(1);
        }
    }
}
