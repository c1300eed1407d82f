/** Counts what is not as due; a throw must be of exactly the due class, not of one below it. */
final class Checks {
    interface Call {
        Object answer();
    }

    private static int made = 0;
    private static int wrong = 0;
    private static String subject = "";

    private Checks() {
    }

    /** Puts the subject ahead of what these checks print; none made is wrong too. */
    static void about(String about, Runnable checks) {
        int before = made;
        subject = about + ": ";
        checks.run();
        boolean any = made > before;
        same("any check", "true", String.valueOf(any));
        subject = "";
    }

    static String answerOf(Call call) {
        try {
            return String.valueOf(call.answer());
        } catch (RuntimeException e) {
            return "throws " + e.getClass().getName();
        }
    }

    static void due(String what, Object want, Call call) {
        same(what, String.valueOf(want), answerOf(call));
    }

    static void throwsDue(String what, Class<? extends RuntimeException> want, Call call) {
        same(what, "throws " + want.getName(), answerOf(call));
    }

    static void same(String what, String want, String got) {
        made++;
        if (!want.equals(got)) {
            wrong++;
            if (wrong <= 50) {
                System.out.println(subject + what + " answered " + got + ", due is " + want);
            }
        }
    }

    static void finish(String name) {
        System.out.println(name + ": " + made + " checks, " + wrong + " wrong");
        if (wrong != 0 || made == 0) {
            System.exit(1);
        }
    }
}
