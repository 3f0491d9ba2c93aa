/** What the tests share: they tell each wrong answer, and end with exit code 1 if there was one. */
final class Check {
    private static int wrong = 0;

    private Check() {
    }

    static void is(String what, long got, long due) {
        if (got != due) {
            tell(what + " answered " + got + ", due is " + due);
        }
    }

    static void yes(String what, boolean got) {
        is(what, got ? 1 : 0, 1);
    }

    static void no(String what, boolean got) {
        is(what, got ? 1 : 0, 0);
    }

    static void off(String what, Runnable call) {
        fails(IllegalStateException.class, what, call);
    }

    static void powerFails(String what, Runnable call) {
        fails(UnsupportedOperationException.class, what, call);
    }

    static void outside(String what, Runnable call) {
        fails(IndexOutOfBoundsException.class, what, call);
    }

    private static void fails(Class<? extends RuntimeException> due, String what, Runnable call) {
        try {
            call.run();
        } catch (RuntimeException e) {
            if (e.getClass() != due) {
                tell(what + " throws " + e + ", due is " + due.getName());
            }
            return;
        }
        tell(what + " throws nothing, due is " + due.getName());
    }

    /** The pending blocks are these, in this order, and there are no more. */
    static void pending(String what, LogFs x, int... due) {
        is(what + ": pending blocks", x.count(0), due.length);
        for (int i = 0; i < due.length; i++) {
            is(what + ": pending block " + i, x.count(8 + i), due[i]);
        }
        is(what + ": no more pending blocks", x.count(8 + due.length), LogFs.NONE);
    }

    /** A block in memory begins with these bytes. */
    static void memory(String what, LogFs x, int block, int from, int... due) {
        for (int i = 0; i < due.length; i++) {
            is(what + ": memory(" + block + ", " + (from + i) + ")", x.memory(block, from + i), due[i]);
        }
    }

    static void disk(String what, LogFs x, int block, int from, int... due) {
        for (int i = 0; i < due.length; i++) {
            is(what + ": disk(" + block + ", " + (from + i) + ")", x.disk(block, from + i), due[i]);
        }
    }

    /** A name as the calls take it. */
    static long name(String text) {
        long name = 0;
        for (int i = 0; i < 8; i++) {
            name = name << 8 | (i < text.length() ? text.charAt(i) : 0);
        }
        return name;
    }

    static void tell(String text) {
        wrong++;
        if (wrong <= 50) {
            System.out.println(text);
        }
    }

    static void end() {
        System.out.println(wrong == 0 ? "all answers are as due" : wrong + " answers are not as due");
        if (wrong != 0) {
            System.exit(1);
        }
    }
}
