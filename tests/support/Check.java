/** Counts the answers that are not the due ones, and ends a test. */
final class Check {
    interface Call {
        void make();
    }

    private static int wrong = 0;
    private static int made = 0;
    /** What is being tested, told ahead of each wrong answer. */
    private static String about = "";

    private Check() {
    }

    static void about(String text) {
        about = text;
    }

    static void same(String what, long got, long due) {
        made++;
        if (got != due) {
            tell(what + " answered " + got + ", due is " + due);
        }
    }

    static void same(String what, char got, char due) {
        made++;
        if (got != due) {
            tell(what + " answered '" + got + "', due is '" + due + "'");
        }
    }

    static void same(String what, double got, double due) {
        made++;
        if (Double.doubleToLongBits(got) != Double.doubleToLongBits(due)) {
            tell(what + " answered " + got + ", due is " + due);
        }
    }

    static void yes(String what, boolean got) {
        made++;
        if (!got) {
            tell(what + " answered false, due is true");
        }
    }

    static void no(String what, boolean got) {
        made++;
        if (got) {
            tell(what + " answered true, due is false");
        }
    }

    /** The call throws just this exception, none below it, and the box is as it was. */
    static void fails(CombCylinder box, String what, Class<? extends RuntimeException> due, Call call) {
        made++;
        long before = box.checksum();
        try {
            call.make();
            tell(what + " threw nothing, due is " + due.getSimpleName());
        } catch (RuntimeException e) {
            if (e.getClass() != due) {
                tell(what + " threw " + e.getClass().getSimpleName() + ", due is " + due.getSimpleName());
            }
        }
        if (box.checksum() != before) {
            tell(what + " threw and changed the box");
        }
    }

    /** The call throws nothing. */
    static void takes(String what, Call call) {
        made++;
        try {
            call.make();
        } catch (RuntimeException e) {
            tell(what + " threw " + e.getClass().getSimpleName() + ", due is nothing");
        }
    }

    static void noIndex(CombCylinder box, String what, Call call) {
        fails(box, what, IndexOutOfBoundsException.class, call);
    }

    static void wrongNumber(CombCylinder box, String what, Call call) {
        fails(box, what, IllegalArgumentException.class, call);
    }

    static void noState(CombCylinder box, String what, Call call) {
        fails(box, what, IllegalStateException.class, call);
    }

    static void noElement(CombCylinder box, String what, Call call) {
        fails(box, what, java.util.NoSuchElementException.class, call);
    }

    static void notDone(CombCylinder box, String what, Call call) {
        fails(box, what, UnsupportedOperationException.class, call);
    }

    static void tell(String text) {
        wrong++;
        if (wrong <= 40) {
            System.out.println(about + text);
        }
    }

    static void end(String test) {
        System.out.println(test + ": " + made + " checks, " + wrong + " wrong");
        if (wrong != 0 || made == 0) {
            System.exit(1);
        }
    }
}
