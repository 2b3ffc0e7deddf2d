/** Promises 61 to 65: undo, saved states and the output text. */
public final class Promises61to65Test {
    private static final Class<IndexOutOfBoundsException> INDEX = IndexOutOfBoundsException.class;
    private static final Class<IllegalStateException> STATE = IllegalStateException.class;
    private static final Testing T = new Testing("Promises61to65Test");

    public static void main(String[] args) {
        promise61everyChange();
        promise61sixChanges();
        promise61whatIsNoChange();
        promise61whatStays();
        promise62save();
        promise63restore();
        promise63wholeState();
        promise63history();
        promises62and63wrongSlots();
        promise64writeLetters();
        promise64longestText();
        promise65outputByte();
        T.end();
    }

    private static void change(PenOffice x, int which) {
        switch (which) {
            case 0: x.pass(9); break;
            case 1: x.addLetter(0, 9, 9, 9, 9); break;
            case 2: x.setPolicy(4); break;
            case 3: x.setDeadline(1, 99); break;
            case 4: x.setPriority(2, 9); break;
            case 5: x.extend(1, 9); break;
            case 6: x.discard(0); break;
            default: Testing.script(x, "policy 3;pass 30;discard 1;"); break;
        }
    }

    private static void promise61everyChange() {
        for (int which = 0; which < 8; which++) {
            PenOffice x = new PenOffice();
            x.pass(5);
            String before = Testing.stateOf(x);
            change(x, which);
            T.due("61 change " + which + " changes the state", Testing.stateOf(x).equals(before), false);
            T.due("61 undo of change " + which, x.undo(), 1);
            T.due("61 the state before change " + which, Testing.stateOf(x), before);
            T.due("61 undo of the first change", x.undo(), 0);
            T.due("61 the first state", Testing.stateOf(x), Testing.stateOf(new PenOffice()));
            T.refused("61 undo of nothing", STATE, x::undo);
        }
    }

    private static void promise61sixChanges() {
        PenOffice x = new PenOffice();
        String[] states = new String[20];
        for (int i = 0; i < 10; i++) {
            states[i] = Testing.stateOf(x);
            x.pass(1);
        }
        for (int i = 9; i >= 4; i--) {
            T.due("61 undo of change " + i, x.undo(), i - 4);
            T.due("61 the state before change " + i, Testing.stateOf(x), states[i]);
        }
        T.refused("61 a seventh undo", STATE, x::undo);
        T.due("61 the state stays", Testing.stateOf(x), states[4]);
        for (int i = 4; i < 8; i++) {
            x.pass(1);
        }
        T.due("61 undo", x.undo(), 3);
        T.due("61 undo once more", x.undo(), 2);
        T.due("61 the state in between", Testing.stateOf(x), states[6]);
        x.setPolicy(2);
        for (int i = 0; i < 5; i++) {
            x.setPolicy(i % 2);
        }
        T.due("61 six changes again", x.undo(), 5);
        for (int left = 4; left >= 0; left--) {
            T.due("61 undo with " + left + " left", x.undo(), left);
        }
        T.due("61 the state before them", Testing.stateOf(x), states[6]);
        T.refused("61 no more", STATE, x::undo);
    }

    private static void promise61whatIsNoChange() {
        PenOffice x = new PenOffice();
        x.pass(1);
        x.save(0);
        x.append(0, 0, 0, 0, 0);
        x.truncate(0);
        x.writeLetters();
        x.minutesToFinish();
        T.refused("54 a wrong pass", IllegalArgumentException.class, () -> x.pass(0));
        T.refused("58 a wrong extend", INDEX, () -> x.extend(9, 1));
        T.refused("59 a wrong discard", STATE, () -> x.discard(3));
        x.append(0, 0, 0, 0, 0);
        T.refused("60 a wrong script", IllegalArgumentException.class, x::runScript);
        T.refused("4 a wrong setup", IllegalArgumentException.class, x::load);
        T.due("61 one change only", x.undo(), 0);
    }

    private static void promise61whatStays() {
        PenOffice x = new PenOffice();
        x.pass(5);
        x.save(0);
        x.pass(1);
        String text = Testing.output(x);
        Testing.type(x, "@");
        T.refused("60 a wrong script", IllegalArgumentException.class, x::runScript);
        Testing.type(x, "bob");
        x.undo();
        T.due("61 the output text stays", x.outputByte(4), (int) text.charAt(4));
        T.due("61 the error code stays", x.errorCode(), 1);
        T.due("61 the error position stays", x.errorPosition(), 0);
        T.due("61 the input stays", x.findClerk(), 1);
        x.undo();
        T.due("61 the saved state stays", x.restore(0), 5);
    }

    private static void promise62save() {
        PenOffice x = new PenOffice();
        T.due("62 save(0)", x.save(0), 0);
        x.pass(3);
        T.due("62 save(1)", x.save(1), 3);
        x.pass(4);
        T.due("62 save is no change", x.undo(), 1);
        T.due("63 slot 0", x.restore(0), 0);
        T.due("63 slot 1", x.restore(1), 3);
        x.pass(2);
        T.due("62 save(1) replaces", x.save(1), 5);
        x.pass(2);
        T.due("63 slot 1 again", x.restore(1), 5);
        T.due("63 slot 0 again", x.restore(0), 0);
    }

    private static void promise63restore() {
        PenOffice x = new PenOffice();
        x.setPolicy(4);
        x.pass(8);
        String state = Testing.stateOf(x);
        x.save(1);
        T.refused("63 the other slot", STATE, () -> x.restore(0));
        x.setPolicy(1);
        x.addLetter(0, 9, 0, 9, 9);
        x.setDeadline(0, 1);
        x.pass(9);
        T.due("63 restore", x.restore(1), 8);
        T.due("63 the state", Testing.stateOf(x), state);
        x.pass(3);
        T.due("63 the state stays saved", x.restore(1), 8);
        T.due("63 the state once more", Testing.stateOf(x), state);
    }

    private static void promise63wholeState() {
        PenOffice x = Testing.office("office 4 2 3 4 2 3 1;clerk a;clerk b;letter a 9 0 9 0;letter b 9 1 5 3;letter a 4 2 9 9;");
        String[] states = new String[60];
        for (int minute = 0; minute < 60; minute++) {
            states[minute] = Testing.stateOf(x);
            x.pass(1);
        }
        PenOffice y = Testing.office("office 4 2 3 4 2 3 1;clerk a;clerk b;letter a 9 0 9 0;letter b 9 1 5 3;letter a 4 2 9 9;");
        for (int minute = 0; minute < 60; minute++) {
            y.save(0);
            y.pass(5);
            y.restore(0);
            T.due("63 the state at minute " + minute, Testing.stateOf(y), states[minute]);
            y.pass(1);
        }
    }

    private static void promise63history() {
        PenOffice x = new PenOffice();
        x.save(0);
        x.pass(1);
        T.refused("63 nothing in slot 1", STATE, () -> x.restore(1));
        T.due("63 a refused restore clears nothing", x.undo(), 0);
        x.pass(1);
        x.restore(0);
        T.refused("63 restore clears the history", STATE, x::undo);
        x.pass(1);
        T.due("61 a change after restore", x.undo(), 0);
        x.writeLetters();
        x.append(0x626f6220, 0, 0, 0, 0);
        x.truncate(3);
        x.restore(0);
        T.due("63 the output text stays", x.outputByte(0), (int) 'a');
        T.due("63 the input stays", x.findClerk(), 1);
    }

    private static void promises62and63wrongSlots() {
        PenOffice x = new PenOffice();
        x.save(0);
        x.save(1);
        for (int slot : new int[] {-1, 2, Integer.MIN_VALUE, Integer.MAX_VALUE}) {
            T.refused("62 save " + slot, INDEX, () -> x.save(slot));
            T.refused("63 restore " + slot, INDEX, () -> x.restore(slot));
        }
    }

    private static void promise64writeLetters() {
        PenOffice x = new PenOffice();
        T.due("64 at first", Testing.output(x), "ann:5 bob:2 ann:3 bob:4");
        T.due("64 its length", x.writeLetters(), 23);
        x.pass(3);
        T.due("64 the current letter", Testing.output(x), "ann:3* bob:2 ann:3 bob:4");
        x.pass(3);
        T.due("64 a finished letter in time", Testing.output(x), "ann:0 bob:2 ann:3 bob:4");
        x.pass(3);
        T.due("64 a late letter", Testing.output(x), "ann:0 bob:0! ann:3 bob:4");
        x.pass(12);
        T.due("64 at the end", Testing.output(x), "ann:0 bob:0! ann:0 bob:0!");
        x.setDeadline(1, 9);
        T.due("64 no longer late", Testing.output(x), "ann:0 bob:0 ann:0 bob:0!");
        PenOffice y = Testing.office("office 0 0 99 0 1 9 0;clerk a;clerk b;");
        T.due("64 without letters", y.writeLetters(), 0);
        y.addLetter(1, 30, 0, 1, 0);
        y.addLetter(0, 10, 0, 1, 0);
        T.due("64 two digits", Testing.output(y), "b:30 a:10");
        y.pass(21);
        T.due("64 a letter behind its deadline is not late before it is finished", Testing.output(y), "b:9* a:10");
        y.pass(1);
        T.due("64 a shorter text replaces it", y.writeLetters(), 9);
        T.refused("64 nothing is left of the longer one", INDEX, () -> y.outputByte(9));
        Testing.type(y, "office 0 0 99 0 1 9 0;clerk a;clerk b;");
        y.load();
        T.due("64 an empty text", y.writeLetters(), 0);
        T.refused("65 of an empty text", INDEX, () -> y.outputByte(0));
    }

    private static void promise64longestText() {
        PenOffice x = Testing.office("office 0 0 99 0 1 9 0;clerk a;clerk abcdef;" + "letter abcdef 30 0 1 0;".repeat(12));
        T.due("64 the longest names", Testing.output(x), "abcdef:30 ".repeat(12).trim());
        x.pass(1);
        T.due("64 with a mark", Testing.output(x), "abcdef:29* " + "abcdef:30 ".repeat(11).trim());
    }

    private static void promise65outputByte() {
        PenOffice x = new PenOffice();
        T.refused("65 before a text is written", INDEX, () -> x.outputByte(0));
        x.pass(9);
        x.writeLetters();
        x.pass(20);
        String text = "ann:0 bob:0! ann:3 bob:4";
        for (int i = 0; i < text.length(); i++) {
            T.due("65 outputByte " + i, x.outputByte(i), (int) text.charAt(i));
        }
        for (int index : new int[] {-1, text.length(), Integer.MIN_VALUE, Integer.MAX_VALUE}) {
            T.refused("65 outputByte " + index, INDEX, () -> x.outputByte(index));
        }
    }
}
