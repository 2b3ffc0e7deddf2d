/** Promises 53 to 60: the changes. */
public final class Promises53to60Test {
    private static final String PLAIN = "office 0 0 99 0 2 5 0;clerk a;clerk b;";
    private static final Class<IndexOutOfBoundsException> INDEX = IndexOutOfBoundsException.class;
    private static final Class<IllegalArgumentException> ARGUMENT = IllegalArgumentException.class;
    private static final Class<IllegalStateException> STATE = IllegalStateException.class;
    private static final Testing T = new Testing("Promises53to60Test");

    public static void main(String[] args) {
        promise53addLetter();
        promise53wrongNumbers();
        promise53noRoom();
        promise54pass();
        promise54wrongMinutes();
        promise55setPolicy();
        promise56setDeadline();
        promise57setPriority();
        promise58extend();
        promise58wrongCalls();
        promise59discard();
        promise59wrongCalls();
        promise60everyCommand();
        promise60stops();
        promise60stopsAtEveryCommand();
        promise60texts();
        promise60undo();
        T.end();
    }

    /** Asks that a call throws, changes nothing and counts as no change. */
    private static void refused(PenOffice x, String what, Class<? extends RuntimeException> want, Testing.Call call) {
        String before = Testing.stateOf(x);
        T.refused(what, want, call);
        T.due("the state after " + what, Testing.stateOf(x), before);
    }

    private static void promise53addLetter() {
        PenOffice x = Testing.office(PLAIN);
        T.due("53 the first letter", x.addLetter(1, 30, 0, 999, 9), 0);
        x.pass(7);
        T.due("53 the second letter", x.addLetter(0, 1, 999, 1, 0), 1);
        T.due("53 the state", Testing.stateOf(x), "2 2 7 0 1 0 0 7 92 0 0 0 1 7 0 0 1000 | a | b"
            + " | 1 30 0 999 9 23 -1 0 | 0 1 1006 1 0 1 -1 0");
        T.due("53 a letter with a delay of 0 is ready", x.isReady(x.addLetter(0, 1, 0, 1, 0)), true);
        T.due("53 a letter with a delay of 1 is not", x.isReady(x.addLetter(0, 1, 1, 1, 0)), false);
        T.due("53 undo", x.undo(), 4);
        T.due("53 the letter is gone", x.letterCount(), 3);
        T.due("53 its number is free", x.addLetter(1, 2, 0, 3, 4), 3);
    }

    private static void promise53wrongNumbers() {
        PenOffice x = new PenOffice();
        for (int clerk : new int[] {-1, 2, 6, Integer.MIN_VALUE, Integer.MAX_VALUE}) {
            refused(x, "53 clerk " + clerk, INDEX, () -> x.addLetter(clerk, 0, -1, 0, 10));
        }
        for (int length : new int[] {0, 31, -1, Integer.MIN_VALUE, Integer.MAX_VALUE}) {
            refused(x, "53 length " + length, ARGUMENT, () -> x.addLetter(0, length, 0, 1, 0));
        }
        for (int delay : new int[] {-1, 1000, Integer.MIN_VALUE, Integer.MAX_VALUE}) {
            refused(x, "53 delay " + delay, ARGUMENT, () -> x.addLetter(0, 1, delay, 1, 0));
        }
        for (int deadline : new int[] {0, 1000, -1, Integer.MIN_VALUE, Integer.MAX_VALUE}) {
            refused(x, "53 deadline " + deadline, ARGUMENT, () -> x.addLetter(0, 1, 0, deadline, 0));
        }
        for (int priority : new int[] {-1, 10, Integer.MIN_VALUE, Integer.MAX_VALUE}) {
            refused(x, "53 priority " + priority, ARGUMENT, () -> x.addLetter(0, 1, 0, 1, priority));
        }
        T.refused("53 no change was kept", STATE, x::undo);
    }

    private static void promise53noRoom() {
        PenOffice x = Testing.office(PLAIN + "letter a 1 0 1 0;".repeat(11));
        T.due("53 the twelfth letter", x.addLetter(0, 1, 0, 1, 0), 11);
        refused(x, "53 a 13th letter", STATE, () -> x.addLetter(0, 1, 0, 1, 0));
        refused(x, "53 a 13th letter of no clerk", INDEX, () -> x.addLetter(2, 1, 0, 1, 0));
        refused(x, "53 a 13th letter without a length", ARGUMENT, () -> x.addLetter(0, 0, 0, 1, 0));
        PenOffice y = Testing.office(PLAIN);
        Testing.passMany(y, 1500);
        refused(y, "53 arrival 2001", STATE, () -> y.addLetter(0, 1, 501, 1, 0));
        refused(y, "53 arrival 2499", STATE, () -> y.addLetter(0, 1, 999, 1, 0));
        refused(y, "53 delay 1000", ARGUMENT, () -> y.addLetter(0, 1, 1000, 1, 0));
        T.due("53 arrival 2000", y.addLetter(0, 1, 500, 1, 0), 0);
        T.due("22 arrival 2000", y.arrival(0), 2000);
    }

    private static void promise54pass() {
        PenOffice x = new PenOffice();
        T.due("54 no letter", x.pass(5), 0);
        T.due("54 a letter", x.pass(1), 1);
        T.due("54 two letters", x.pass(7), 2);
        T.due("9 minute", x.minute(), 13);
        T.due("54 the last letter", x.pass(300), 1);
        T.due("9 minute later", x.minute(), 313);
        Testing.passMany(x, 1687);
        T.due("9 minute 2000", x.minute(), 2000);
        T.due("54 one call is one change", x.undo(), 5);
        PenOffice y = new PenOffice();
        y.pass(3);
        y.discard(1);
        T.due("54 discarded letters do not count", y.pass(3), 1);
    }

    private static void promise54wrongMinutes() {
        PenOffice x = new PenOffice();
        for (int minutes : new int[] {0, -1, 301, Integer.MIN_VALUE, Integer.MAX_VALUE}) {
            refused(x, "54 pass " + minutes, ARGUMENT, () -> x.pass(minutes));
        }
        Testing.passMany(x, 1999);
        refused(x, "54 pass 2 at minute 1999", STATE, () -> x.pass(2));
        refused(x, "54 pass 300 at minute 1999", STATE, () -> x.pass(300));
        refused(x, "54 pass 301 at minute 1999", ARGUMENT, () -> x.pass(301));
        T.due("54 pass 1 at minute 1999", x.pass(1), 0);
        refused(x, "54 pass 1 at minute 2000", STATE, () -> x.pass(1));
    }

    private static void promise55setPolicy() {
        PenOffice x = new PenOffice();
        T.due("55 setPolicy(4)", x.setPolicy(4), 0);
        T.due("55 setPolicy(2)", x.setPolicy(2), 4);
        T.due("55 setPolicy(2) again", x.setPolicy(2), 2);
        T.due("10 policy", x.policy(), 2);
        for (int policy : new int[] {-1, 5, Integer.MIN_VALUE, Integer.MAX_VALUE}) {
            refused(x, "55 setPolicy " + policy, ARGUMENT, () -> x.setPolicy(policy));
        }
        T.due("55 the same policy is a change", x.undo(), 2);
        T.due("10 policy after undo", x.policy(), 2);
    }

    private static void promise56setDeadline() {
        PenOffice x = new PenOffice();
        x.pass(6);
        T.due("56 setDeadline(0, 5)", x.setDeadline(0, 5), 9);
        T.due("37 a finished letter becomes late", x.lateCount(), 1);
        T.due("56 setDeadline(0, 999)", x.setDeadline(0, 999), 5);
        T.due("56 setDeadline(3, 1)", x.setDeadline(3, 1), 12);
        T.due("23 deadline", x.deadline(0) + " " + x.deadline(3), "999 1");
        refused(x, "56 letter -1", INDEX, () -> x.setDeadline(-1, 0));
        refused(x, "56 letter 4", INDEX, () -> x.setDeadline(4, 1));
        refused(x, "56 the greatest letter", INDEX, () -> x.setDeadline(Integer.MAX_VALUE, 1));
        for (int deadline : new int[] {0, 1000, -1, Integer.MIN_VALUE, Integer.MAX_VALUE}) {
            refused(x, "56 deadline " + deadline, ARGUMENT, () -> x.setDeadline(1, deadline));
        }
    }

    private static void promise57setPriority() {
        PenOffice x = new PenOffice();
        x.pass(6);
        T.due("57 setPriority(0, 9)", x.setPriority(0, 9), 2);
        T.due("57 setPriority(0, 0)", x.setPriority(0, 0), 9);
        T.due("57 setPriority(3, 1)", x.setPriority(3, 1), 7);
        T.due("24 priority", x.priority(0) + " " + x.priority(3), "0 1");
        refused(x, "57 letter -1", INDEX, () -> x.setPriority(-1, 10));
        refused(x, "57 letter 4", INDEX, () -> x.setPriority(4, 1));
        refused(x, "57 the greatest letter", INDEX, () -> x.setPriority(Integer.MAX_VALUE, 1));
        for (int priority : new int[] {10, -1, Integer.MIN_VALUE, Integer.MAX_VALUE}) {
            refused(x, "57 priority " + priority, ARGUMENT, () -> x.setPriority(1, priority));
        }
    }

    private static void promise58extend() {
        PenOffice x = new PenOffice();
        x.pass(3);
        T.due("58 extend(0, 25)", x.extend(0, 25), 28);
        T.due("21 length", x.length(0), 30);
        T.due("12 the current letter stays", x.currentLetter(), 0);
        T.due("58 extend(1, 1)", x.extend(1, 1), 3);
        PenOffice y = Testing.office(PLAIN + "letter b 1 500 9 0;");
        T.due("58 a letter that has not arrived", y.extend(0, 29), 30);
        T.due("21 its length", y.length(0), 30);
    }

    private static void promise58wrongCalls() {
        PenOffice x = new PenOffice();
        x.pass(6);
        refused(x, "58 letter -1", INDEX, () -> x.extend(-1, 0));
        refused(x, "58 letter 4", INDEX, () -> x.extend(4, 1));
        refused(x, "58 the least letter", INDEX, () -> x.extend(Integer.MIN_VALUE, 1));
        for (int minutes : new int[] {0, -1, 30, Integer.MIN_VALUE, Integer.MAX_VALUE}) {
            refused(x, "58 minutes " + minutes, ARGUMENT, () -> x.extend(1, minutes));
            refused(x, "58 minutes of a finished letter " + minutes, ARGUMENT, () -> x.extend(0, minutes));
        }
        refused(x, "58 a finished letter", STATE, () -> x.extend(0, 1));
        refused(x, "58 a length of 31", STATE, () -> x.extend(1, 29));
        T.due("58 a length of 30", x.extend(1, 28), 30);
        refused(x, "58 more than 30", STATE, () -> x.extend(1, 1));
    }

    private static void promise59discard() {
        PenOffice x = new PenOffice();
        x.pass(3);
        T.due("12 the current letter", x.currentLetter(), 0);
        T.due("59 another letter", x.discard(3), 4);
        T.due("12 the current letter stays", x.currentLetter(), 0);
        T.due("59 the current letter", x.discard(0), 3);
        T.due("12 there is no current letter", x.currentLetter(), -1);
        T.due("13 the last letter stays", x.lastLetter(), 0);
        T.due("14 the run stays", x.runLength(), 2);
        T.due("25 and 26", x.remaining(0) + " " + x.finishMinute(0) + " " + x.remaining(3) + " " + x.finishMinute(3), "0 3 0 3");
        T.due("21 length", x.length(0), 5);
        T.due("36 finishedCount", x.finishedCount(), 2);
        x.pass(1);
        T.due("39 no blot by the next letter", x.blots(), 0);
        PenOffice y = new PenOffice();
        T.due("59 at minute 0", y.discard(0), 5);
        T.due("26 at minute 0", y.finishMinute(0), 0);
        y.pass(1);
        T.due("59 at its arrival", y.discard(1), 2);
        T.due("42 the office was idle", y.idleMinutes(), 1);
    }

    private static void promise59wrongCalls() {
        PenOffice x = new PenOffice();
        refused(x, "59 letter -1", INDEX, () -> x.discard(-1));
        refused(x, "59 letter 4", INDEX, () -> x.discard(4));
        refused(x, "59 the greatest letter", INDEX, () -> x.discard(Integer.MAX_VALUE));
        refused(x, "59 a letter that has not arrived", STATE, () -> x.discard(1));
        x.pass(6);
        refused(x, "59 a finished letter", STATE, () -> x.discard(0));
        x.discard(1);
        refused(x, "59 a discarded letter", STATE, () -> x.discard(1));
    }

    private static void promise60everyCommand() {
        PenOffice x = new PenOffice();
        PenOffice y = new PenOffice();
        T.due("60 every command", Testing.script(x, "pass 4;letter bob 7 3 40 6;policy 2; deadline 4 050\n;priority 4 8;discard 2;"
            + "pass 2;letter ann 1 0 30 1;"), 8);
        y.pass(4);
        y.addLetter(1, 7, 3, 40, 6);
        y.setPolicy(2);
        y.setDeadline(4, 50);
        y.setPriority(4, 8);
        y.discard(2);
        y.pass(2);
        y.addLetter(0, 1, 0, 30, 1);
        T.due("60 the state", Testing.stateOf(x), Testing.stateOf(y));
        T.due("60 the arrival of a letter is its delay", x.arrival(4), 7);
        T.due("60 thirty commands", Testing.script(x, "policy 3;".repeat(29) + "pass 300;"), 30);
        T.due("9 minute", x.minute(), 306);
    }

    private static void promise60stops() {
        PenOffice x = new PenOffice();
        T.due("60 stops at the third command", Testing.script(x, "pass 1;pass 2;pass 0;pass 4;"), 2);
        T.due("9 minute", x.minute(), 3);
        T.due("5 errorCode", x.errorCode(), 0);
        T.due("6 errorPosition", x.errorPosition(), -1);
        T.due("60 stops at the first command", Testing.script(x, "discard 9;pass 4;"), 0);
        T.due("9 minute stays", x.minute(), 3);
        T.due("60 both are changes", x.undo(), 1);
        T.due("61 a script is undone as a whole", x.undo(), 0);
        T.due("9 minute 0", x.minute(), 0);
    }

    private static void promise60stopsAtEveryCommand() {
        String[] wrong = {
            "pass 0", "pass 301", "pass 999", "policy 5", "policy 999", "deadline 4 5", "deadline 0 0", "priority 4 5", "priority 0 10",
            "discard 4", "discard 1", "letter ann 0 0 1 0", "letter ann 31 0 1 0", "letter ann 1 0 0 0", "letter ann 1 0 1 10",
        };
        for (String command : wrong) {
            PenOffice x = new PenOffice();
            T.due("60 stops at " + command, Testing.script(x, "policy 1;" + command + ";policy 2;"), 1);
            T.due("60 the state after " + command, x.policy() + " " + x.letterCount() + " " + x.minute(), "1 4 0");
        }
        PenOffice x = new PenOffice();
        T.due("60 stops at a 13th letter", Testing.script(x, "letter ann 1 0 1 0;".repeat(9)), 8);
        Testing.passMany(x, 1900);
        T.due("60 stops at minute 2000", Testing.script(x, "pass 60;pass 41;pass 1;"), 1);
        PenOffice y = Testing.office(PLAIN);
        Testing.passMany(y, 1900);
        T.due("60 stops at arrival 2001", Testing.script(y, "letter a 1 100 1 0;letter b 1 101 1 0;"), 1);
    }

    private static void promise60texts() {
        PenOffice x = new PenOffice();
        T.due("60 an empty text", x.runScript(), 0);
        T.due("60 it is a change", x.undo(), 0);
        T.due("60 blanks", Testing.script(x, " \n  "), 0);
        T.due("60 no blanks", Testing.script(x, "policy3;pass2;"), 2);
        T.due("10 policy", x.policy(), 3);
        T.due("60 the buffer is empty", x.append(0, 0, 0, 0, 0), 20);
        T.refused("60 bytes 0", ARGUMENT, x::runScript);
        T.due("60 the buffer is empty after an error", x.append(0, 0, 0, 0, 0), 20);
        PenOffice y = Testing.office("office 0 0 99 0 2 5 0;clerk letter;clerk policy;");
        T.due("60 words of the grammar as names", Testing.script(y, "letter policy 1 0 1 0;letter letter 1 0 1 0;"), 2);
        T.due("20 their clerks", y.clerkOf(0) + " " + y.clerkOf(1), "1 0");
        Testing.type(y, "pass 1;" + " ".repeat(593));
        T.due("60 a text of 600 bytes", y.runScript(), 1);
    }

    private static void promise60undo() {
        PenOffice x = new PenOffice();
        x.pass(1);
        String before = Testing.stateOf(x);
        Testing.script(x, "pass 9;policy 4;letter bob 1 1 1 1;discard 2;pass 9;");
        T.due("60 one change", x.undo(), 1);
        T.due("60 undone as a whole", Testing.stateOf(x), before);
    }
}
