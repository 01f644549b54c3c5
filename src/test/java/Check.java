/** Counts and prints what is not as it is due. */
final class Check {

    interface Call {
        Object run();
    }

    private static int calls = 0;
    private static int wrong = 0;

    private Check() {
    }

    /** The call of this promise must answer this. */
    static void due(int promise, String what, Object want, Call call) {
        report(promise, what, String.valueOf(want), answerOf(call));
    }

    /** The call of this promise must throw exactly this class. */
    static void refused(int promise, String what, Class<?> want, Call call) {
        report(promise, what, "throws " + want.getName(), answerOf(call));
    }

    private static void report(int promise, String what, String want, String got) {
        calls++;
        if (!want.equals(got)) {
            wrong++;
            System.out.println("promise " + promise + ": " + what + ": answered " + got + ", due is " + want);
        }
    }

    static String answerOf(Call call) {
        try {
            return String.valueOf(call.run());
        } catch (RuntimeException e) {
            return textOf(e);
        }
    }

    /** Tells what was thrown, and whether it was thrown by a library or by the machine, not by the class. */
    static String textOf(Throwable thrown) {
        StackTraceElement[] calls = thrown.getStackTrace();
        boolean isOwn = calls.length == 0 || calls[0].getClassName().matches("(Lorewick|Model)(\\$.*)?");
        boolean isMachine = String.valueOf(thrown.getMessage()).equals("/ by zero");
        return "throws " + thrown.getClass().getName() + (isOwn && !isMachine ? "" : " by itself");
    }

    /** Ends the program, with 1 if anything was wrong. */
    static void end() {
        System.out.println(calls + " calls checked, " + wrong + " wrong");
        if (wrong > 0 || calls == 0) {
            System.exit(1);
        }
    }

    static Lorewick type(Lorewick x, String text) {
        for (int i = 0; i < text.length(); i++) {
            x.type(text.charAt(i));
        }
        return x;
    }

    static int word(Lorewick x, String text) {
        return type(x, text).word();
    }

    static char say(Lorewick x, String text) {
        return type(x, text).say();
    }

    static int name(Lorewick x, String text) {
        return type(x, text).name();
    }

    static int jump(Lorewick x, String text) {
        return type(x, text).jump();
    }

    /** Says several commands, divided by commas, and returns their answers in a row. */
    static String sayAll(Lorewick x, String texts) {
        StringBuilder answers = new StringBuilder();
        for (String text : texts.split(",")) {
            answers.append(say(x, text));
        }
        return answers.toString();
    }

    /** Returns the line of play, read sign by sign. */
    static String line(Lorewick x) {
        StringBuilder text = new StringBuilder();
        int length = x.line();
        for (int i = 0; i < length; i++) {
            text.append(x.signOf(i));
        }
        return text.toString();
    }
}
