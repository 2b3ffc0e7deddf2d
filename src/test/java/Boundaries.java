/** What the tests of boundary sentences share. */
final class Boundaries {
    /** Two clerks, no hand-over times, much ink, no refills, a quantum of 2, an aging time of 5 and no blots. */
    static final String PLAIN = "office 0 0 99 0 2 5 0;clerk a;clerk b;";
    static final String SIX_CLERKS = PLAIN + "clerk c;clerk d;clerk e;clerk f;";
    /** A letter of the 150 minutes of these, with a refill of 9 minutes after each, ends 300, 600, .. 1491 minutes after the arrival. */
    private static final String SLOW = "office 0 0 1 9 1 1 5;clerk a;clerk b;";

    private Boundaries() {
    }

    /** The numbers next to a range, and those at the ends of int. */
    static int[] outside(int least, int most) {
        return new int[] {least - 1, most + 1, Integer.MIN_VALUE, Integer.MAX_VALUE};
    }

    static PenOffice plain(String letters) {
        return Testing.office(PLAIN + letters);
    }

    static PenOffice withSettings(String settings, String letters) {
        return Testing.office("office " + settings + ";clerk a;clerk b;" + letters);
    }

    static PenOffice slow(int letters, int arrival) {
        return Testing.office(SLOW + ("letter a 30 " + arrival + " 999 0;").repeat(letters));
    }

    /** Loads a text in which a bar stands before the first token with an error. */
    static void wrongSetup(Testing t, String marked, int code) {
        PenOffice x = new PenOffice();
        Testing.type(x, marked.replace("|", ""));
        t.refused("load of " + marked, Testing.ARGUMENT, x::load);
        errorIs(t, x, marked, code);
    }

    /** The same for a script, which the office of a new object reads. */
    static void wrongScript(Testing t, String marked, int code) {
        PenOffice x = new PenOffice();
        Testing.type(x, marked.replace("|", ""));
        t.refused("runScript of " + marked, Testing.ARGUMENT, x::runScript);
        errorIs(t, x, marked, code);
    }

    private static void errorIs(Testing t, PenOffice x, String marked, int code) {
        t.due("errorCode of " + marked, x.errorCode(), code);
        t.due("errorPosition of " + marked, x.errorPosition(), marked.indexOf('|'));
    }

    static void rightSetup(Testing t, String text, int letters) {
        PenOffice x = new PenOffice();
        Testing.type(x, text);
        t.due("load of " + text, x.load(), letters);
    }

    static void rightScript(Testing t, String text, int commands) {
        t.due("runScript of " + text, Testing.script(new PenOffice(), text), commands);
    }
}
