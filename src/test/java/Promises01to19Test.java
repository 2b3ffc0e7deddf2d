import java.util.NoSuchElementException;

/** Promises 1 to 19: a new object, the input buffer, setup texts, and what the office tells of itself. */
public final class Promises01to19Test {
    private static final String FIRST = "office 0 1 10 2 3 4 1;clerk ann;clerk bob;letter ann 5 0 9 2;letter bob 2 1 6 5;"
        + "letter ann 3 2 20 1;letter bob 4 3 12 7;";
    private static final String HEAD = "office 0 1 10 2 3 4 1;";
    private static final String TWO = HEAD + "clerk ann;clerk bob;";
    private static final Testing T = new Testing("Promises01to19Test");

    public static void main(String[] args) {
        promise1newObject();
        promise2append();
        promise3truncate();
        promise4load();
        promise4loadAfterForecasts();
        promise4loadWithAnError();
        promise4rangesOfNumbers();
        promises5and6wrongTokens();
        promises5and6otherErrors();
        promises5and6scripts();
        promises5and6latestCall();
        promises7to10counts();
        promises11to17firstCome();
        promises11to17roundRobin();
        promise17longHandOver();
        promises15and16refills();
        promise18nameByte();
        promise19findClerk();
        T.end();
    }

    private static void promise1newObject() {
        PenOffice x = new PenOffice();
        T.due("1 the state", Testing.stateOf(x), "2 4 0 0 -1 -1 -1 0 10 0 0 0 0 0 0 0 20 | ann | bob"
            + " | 0 5 0 9 2 5 -1 0 | 1 2 1 6 5 2 -1 0 | 0 3 2 20 1 3 -1 0 | 1 4 3 12 7 4 -1 0");
        T.due("1 errorCode", x.errorCode(), 0);
        T.due("1 errorPosition", x.errorPosition(), -1);
        T.refused("1 undo", IllegalStateException.class, x::undo);
        T.refused("1 restore(0)", IllegalStateException.class, () -> x.restore(0));
        T.refused("1 restore(1)", IllegalStateException.class, () -> x.restore(1));
        T.refused("1 outputByte(0)", IndexOutOfBoundsException.class, () -> x.outputByte(0));
        T.refused("1 findClerk with an empty buffer", NoSuchElementException.class, x::findClerk);
        T.due("1 the first append", x.append(0, 0, 0, 0, 0), 20);
        for (int policy = 0; policy < 5; policy++) {
            PenOffice made = new PenOffice();
            PenOffice loaded = Testing.office(FIRST);
            made.setPolicy(policy);
            loaded.setPolicy(policy);
            for (int minute = 0; minute < 40; minute++) {
                made.pass(1);
                loaded.pass(1);
                T.due("1 with policy " + policy + " in minute " + minute, Testing.stateOf(made), Testing.stateOf(loaded));
            }
        }
    }

    private static void promise2append() {
        PenOffice x = new PenOffice();
        // "clerk" of no use, but 20 different letters: abcdefghijklmnopqrst
        T.due("2 append", x.append(0x61626364, 0x65666768, 0x696a6b6c, 0x6d6e6f70, 0x71727374), 20);
        T.refused("2 a word of 20 letters", IllegalArgumentException.class, x::load);
        T.due("2 its position", x.errorPosition(), 0);
        x.append(0x6f666669, 0x63652030, 0x20312031, 0x30203220, 0x33203420);
        T.due("2 the second append", x.append(0x313b636c, 0x65726b20, 0x7a3b636c, 0x65726b20, 0x793b2020), 40);
        T.due("2 load", x.load(), 0);
        T.due("2 the name of clerk 0", Testing.nameOf(x, 0), "z");
        T.due("2 the name of clerk 1", Testing.nameOf(x, 1), "y");
        x.append(0xe1e1e1e1, 0, 0, 0, 0);
        T.refused("2 bytes above 127", IllegalArgumentException.class, x::load);
        T.due("2 their code", x.errorCode(), 1);
        for (int length = 20; length <= 600; length += 20) {
            T.due("2 append", x.append(0x20202020, 0x20202020, 0x20202020, 0x20202020, 0x0a0a0a0a), length);
        }
        T.refused("2 append to 600 bytes", IllegalStateException.class, () -> x.append(0, 0, 0, 0, 0));
        T.due("2 the full buffer stays", x.truncate(600), 600);
        x.truncate(581);
        T.refused("2 append to 581 bytes", IllegalStateException.class, () -> x.append(0, 0, 0, 0, 0));
        x.truncate(580);
        T.due("2 append to 580 bytes", x.append(0, 0, 0, 0, 0), 600);
    }

    private static void promise3truncate() {
        PenOffice x = new PenOffice();
        T.due("3 truncate(0) of nothing", x.truncate(0), 0);
        T.refused("3 truncate(1) of nothing", IllegalArgumentException.class, () -> x.truncate(1));
        Testing.type(x, "bobby");
        T.refused("3 truncate(6)", IllegalArgumentException.class, () -> x.truncate(6));
        T.refused("3 truncate(-1)", IllegalArgumentException.class, () -> x.truncate(-1));
        T.refused("3 truncate(least int)", IllegalArgumentException.class, () -> x.truncate(Integer.MIN_VALUE));
        T.refused("3 truncate(greatest int)", IllegalArgumentException.class, () -> x.truncate(Integer.MAX_VALUE));
        T.due("3 truncate(5)", x.truncate(5), 5);
        T.due("3 truncate(3)", x.truncate(3), 3);
        T.due("3 the first bytes stay", x.findClerk(), 1);
        T.refused("3 truncate(4)", IllegalArgumentException.class, () -> x.truncate(4));
    }

    private static void promise4load() {
        PenOffice x = new PenOffice();
        x.pass(10);
        x.save(0);
        x.save(1);
        Testing.output(x);
        Testing.type(x, "office 3 2 50 4 5 6 0 ;\nclerk office;clerk\n\nletter ; clerk pass;letter pass 007 1 30 4;"
            + "letter letter 1 0 999 0 ;  ");
        T.due("4 load", x.load(), 2);
        T.due("4 the state", Testing.stateOf(x), "3 2 0 3 -1 -1 -1 0 50 0 0 0 0 0 0 0 14 | office | letter | pass"
            + " | 2 7 1 30 4 7 -1 0 | 1 1 0 999 0 1 -1 0");
        T.due("4 the buffer is empty", x.append(0, 0, 0, 0, 0), 20);
        T.refused("4 saved 0 is gone", IllegalStateException.class, () -> x.restore(0));
        T.refused("4 saved 1 is gone", IllegalStateException.class, () -> x.restore(1));
        T.refused("4 the changes are gone", IllegalStateException.class, x::undo);
        T.due("4 the output text stays", (int) (char) x.outputByte(0), (int) 'a');
        x.truncate(0);
        Testing.type(x, HEAD + "clerk a;clerk b;" + " ".repeat(562));
        T.due("4 a text of 600 bytes without letters", x.load(), 0);
        T.due("4 without letters nothing is left to do", x.minutesToFinish(), 0);
    }

    /** Nothing of the office before is left, wherever a forecast of it ended. */
    private static void promise4loadAfterForecasts() {
        for (int minutes = 1; minutes < 60; minutes++) {
            PenOffice x = Testing.office("office 4 2 3 4 2 3 1;clerk a;clerk b;letter a 9 2 1 0;letter b 9 3 5 3;letter a 1 4 9 9;");
            x.pass(minutes);
            x.letterWrittenIn(0);
            Testing.type(x, "office 0 5 9 0 2 3 1;clerk c;clerk d;letter d 2 0 5 0;letter c 3 0 5 0;letter c 4 0 5 0;letter c 5 0 5 0;");
            x.load();
            T.due("4 load after a forecast of minute " + minutes, Testing.stateOf(x), "2 4 0 0 -1 -1 -1 0 9 0 0 0 0 0 0 0 24 | c | d"
                + " | 1 2 0 5 0 2 -1 0 | 0 3 0 5 0 3 -1 0 | 0 4 0 5 0 4 -1 0 | 0 5 0 5 0 5 -1 0");
        }
    }

    private static void promise4loadWithAnError() {
        PenOffice x = new PenOffice();
        x.pass(3);
        x.save(1);
        x.pass(2);
        x.writeLetters();
        String before = Testing.stateOf(x);
        Testing.type(x, "office 4 5 99 9 9 20 5;clerk zoe;clerk yan;letter yan 1 1 1 1;letter yan 1 1 1 10;");
        T.refused("4 load of a wrong text", IllegalArgumentException.class, x::load);
        T.due("4 the state stays", Testing.stateOf(x), before);
        T.due("4 the buffer is empty", x.truncate(0), 0);
        T.refused("4 the buffer is empty", IllegalArgumentException.class, () -> x.truncate(1));
        T.due("4 the output text stays", x.outputByte(3), (int) ':');
        T.due("4 the changes stay", x.undo(), 1);
        T.due("4 the saved state stays", x.restore(1), 3);
        T.refused("4 load of an empty text", IllegalArgumentException.class, x::load);
        T.due("4 its code", x.errorCode(), 1);
        T.due("4 its position", x.errorPosition(), 0);
    }

    private static void promise4rangesOfNumbers() {
        String clerks = ";clerk a;clerk b;";
        T.due("4 least settings", Testing.office("office 0 0 1 0 1 1 0" + clerks + "letter a 1 0 1 0;").length(0), 1);
        PenOffice x = Testing.office("office 4 5 99 9 9 20 5" + clerks + "letter b 30 999 999 9;");
        T.due("4 greatest settings", Testing.stateOf(x), "2 1 0 4 -1 -1 -1 0 99 0 0 0 0 0 0 0 1034 | a | b | 1 30 999 999 9 30 -1 0");
        wrongSetup("office |5 0 1 0 1 1 0", 2);
        wrongSetup("office 0 |6 1 0 1 1 0", 2);
        wrongSetup("office 0 0 |0 0 1 1 0", 2);
        wrongSetup("office 0 0 |100 0 1 1 0", 2);
        wrongSetup("office 0 0 1 |10 1 1 0", 2);
        wrongSetup("office 0 0 1 0 |0 1 0", 2);
        wrongSetup("office 0 0 1 0 |10 1 0", 2);
        wrongSetup("office 0 0 1 0 1 |0 0", 2);
        wrongSetup("office 0 0 1 0 1 |21 0", 2);
        wrongSetup("office 0 0 1 0 1 1 |6", 2);
        wrongSetup(TWO + "letter ann |0 0 1 0;", 2);
        wrongSetup(TWO + "letter ann |31 0 1 0;", 2);
        wrongSetup(TWO + "letter ann 1 0 |0 0;", 2);
        wrongSetup(TWO + "letter ann 1 0 1 |10;", 2);
    }

    /** Loads a text in which a bar stands before the first token with an error. */
    private static void wrongSetup(String marked, int code) {
        PenOffice x = new PenOffice();
        Testing.type(x, marked.replace("|", ""));
        T.refused("load of " + marked, IllegalArgumentException.class, x::load);
        T.due("errorCode of " + marked, x.errorCode(), code);
        T.due("errorPosition of " + marked, x.errorPosition(), marked.indexOf('|'));
    }

    /** The same for a script, whose text the office of a new object reads. */
    private static void wrongScript(String marked, int code) {
        PenOffice x = new PenOffice();
        String before = Testing.stateOf(x);
        Testing.type(x, marked.replace("|", ""));
        T.refused("runScript of " + marked, IllegalArgumentException.class, x::runScript);
        T.due("errorCode of " + marked, x.errorCode(), code);
        T.due("errorPosition of " + marked, x.errorPosition(), marked.indexOf('|'));
        T.due("the state after " + marked, Testing.stateOf(x), before);
        T.refused("undo after " + marked, IllegalStateException.class, x::undo);
        T.refused("a byte is left after " + marked, IllegalArgumentException.class, () -> x.truncate(1));
    }

    private static void promises5and6wrongTokens() {
        wrongSetup("|", 1);
        wrongSetup(" \n |", 1);
        wrongSetup("|ofice 0 1 10 2 3 4 1;", 1);
        wrongSetup("|affice 0 1 10 2 3 4 1;", 1);
        wrongSetup("|officer 0 1 10 2 3 4 1;", 1);
        wrongSetup("|0", 1);
        wrongSetup("|;", 1);
        wrongSetup("|Office", 1);
        wrongSetup("|\toffice", 1);
        wrongSetup("office|\r0", 1);
        wrongSetup("office |-1", 1);
        wrongSetup("office |a", 1);
        wrongSetup("office |;", 1);
        wrongSetup("office |1000 1", 1);
        wrongSetup("office |0000 1", 1);
        wrongSetup("office 0 1 10 2 3 4|", 1);
        wrongSetup("office 0 1 10 2 3 4 |;", 1);
        wrongSetup("office 0 1 10 2 3 4 1 |1;", 1);
        wrongSetup("office 0 1 10 2 3 4 1  |", 1);
        wrongSetup(HEAD + "|", 1);
        wrongSetup(HEAD + "|;", 1);
        wrongSetup(HEAD + "|letter ann 1 0 1 0;", 1);
        wrongSetup(HEAD + "clerk ann;|", 1);
        wrongSetup(HEAD + "clerk ann; |letter ann 1 0 1 0;", 1);
        wrongSetup(HEAD + "clerk |7;", 1);
        wrongSetup(HEAD + "clerk |;", 1);
        wrongSetup(HEAD + "clerk|", 1);
        wrongSetup(HEAD + "clerk ann |bob;", 1);
        wrongSetup(HEAD + "clerk ann|", 1);
        wrongSetup(HEAD + "clerk |abcdefghi;", 1);
        wrongSetup(TWO + "|pass 1;", 1);
        wrongSetup(TWO + "|office", 1);
        wrongSetup(TWO + "|;", 1);
        wrongSetup(TWO + "|letters ann 1 0 1 0;", 1);
        wrongSetup(TWO + "letter |1", 1);
        wrongSetup(TWO + "letter ann |ann", 1);
        wrongSetup(TWO + "letter ann 1 0 1|", 1);
        wrongSetup(TWO + "letter ann 1 0 1 |;", 1);
        wrongSetup(TWO + "letter ann 1 0 1 0|", 1);
        wrongSetup(TWO + "letter ann 1 |1000 1 0;", 1);
        wrongSetup(TWO + "letter ann 1 0 1 0;|clerk cid;", 1);
        wrongSetup(TWO + "letter ann 1 0 1 0;|;", 1);
        wrongSetup("office 0 1 10 2 3 4 |9;@", 2);
        T.due("no blanks are needed", Testing.office("office0 1 10 2 3 4 1;clerk a;clerk b;letter a1 0 1 0;").letterCount(), 1);
    }

    private static void promises5and6otherErrors() {
        wrongSetup(HEAD + "clerk |abcdefg;", 3);
        wrongSetup(HEAD + "clerk |deadline;", 3);
        wrongSetup(HEAD + "clerk ann;clerk |ann", 3);
        wrongSetup(HEAD + "clerk ann;clerk ann", HEAD.length() + 16, 3);
        wrongSetup(TWO + "clerk |bob;", 3);
        wrongSetup(TWO + "letter |cid 1 0 1 0;", 3);
        wrongSetup(TWO + "letter |an 1 0 1 0;", 3);
        wrongSetup(TWO + "letter |anna 1 0 1 0;", 3);
        wrongSetup(TWO + "letter |abcdefg 1 0 1 0;", 3);
        wrongSetup(TWO + "letter |abcdefghi 1 0 1 0;", 1);
        String six = TWO + "clerk c;clerk d;clerk e;clerk f;";
        T.due("six clerks", Testing.office(six).clerkCount(), 6);
        wrongSetup(six + "|clerk ann;", 4);
        wrongSetup(six + "|clerk", 4);
        wrongSetup(six + "|clark g;", 1);
        String twelve = TWO + "letter bob 1 0 1 0;".repeat(12);
        T.due("twelve letters", Testing.office(twelve).letterCount(), 12);
        wrongSetup(twelve + "|letter zoe 99 0 1 0;", 4);
        wrongSetup(twelve + "|clerk g;", 1);
        wrongSetup(twelve + "|@", 1);
    }

    private static void wrongSetup(String text, int position, int code) {
        wrongSetup(text.substring(0, position) + "|" + text.substring(position), code);
    }

    private static void promises5and6scripts() {
        wrongScript("|ledger", 1);
        wrongScript("|better ann 1 0 1 0;", 1);
        wrongScript("|mass 1;", 1);
        PenOffice cut = new PenOffice();
        Testing.type(cut, "pass 12;");
        cut.truncate(6);
        T.refused("a text that was cut", IllegalArgumentException.class, cut::runScript);
        T.due("its position", cut.errorPosition(), 6);
        wrongScript("|office 1;", 1);
        wrongScript("|clerk cid;", 1);
        wrongScript("|;", 1);
        wrongScript("|1;", 1);
        wrongScript("pass|", 1);
        wrongScript("pass |;", 1);
        wrongScript("pass |one;", 1);
        wrongScript("pass |1000;", 1);
        wrongScript("pass 1|", 1);
        wrongScript("pass 1 |1;", 1);
        wrongScript("pass 1;|;", 1);
        wrongScript("policy |;", 1);
        wrongScript("policy 1 |2;", 1);
        wrongScript("deadline 1|;", 1);
        wrongScript("deadline 1 2 |3;", 1);
        wrongScript("priority 1|;", 1);
        wrongScript("priority 1 2 |3;", 1);
        wrongScript("discard |ann;", 1);
        wrongScript("discard 1 |1;", 1);
        wrongScript("letter |;", 1);
        wrongScript("letter ann 1 0 1|;", 1);
        wrongScript("letter ann 1 0 1 1 |1;", 1);
        wrongScript("letter |abcdefghi 1 0 1 1;", 1);
        wrongScript("pass 1;letter |abcdefg 1 0 1 1;", 3);
        wrongScript("pass 1;letter |priority 1 0 1 1;", 3);
        wrongScript("pass 1;letter |cid 1 0 1 1;", 3);
        wrongScript("policy 1;".repeat(30) + "|pass", 4);
        wrongScript("policy 1;".repeat(30) + "|discard 0;", 4);
        wrongScript("policy 1;".repeat(30) + "|passes", 1);
        wrongScript("policy 1;".repeat(30) + "|;", 1);
    }

    private static void promises5and6latestCall() {
        PenOffice x = new PenOffice();
        Testing.type(x, "  pass  x");
        T.refused("5 a wrong script", IllegalArgumentException.class, x::runScript);
        T.due("5 its code", x.errorCode(), 1);
        T.due("6 its position", x.errorPosition(), 8);
        x.pass(1);
        x.undo();
        x.save(0);
        x.restore(0);
        T.due("5 the code stays", x.errorCode(), 1);
        T.due("6 the position stays", x.errorPosition(), 8);
        T.due("5 an empty script", x.runScript(), 0);
        T.due("5 the code is cleared by a script", x.errorCode(), 0);
        T.due("6 the position is cleared by a script", x.errorPosition(), -1);
        T.refused("5 an empty setup", IllegalArgumentException.class, x::load);
        T.due("5 the code of a setup", x.errorCode(), 1);
        T.due("6 the position of a setup", x.errorPosition(), 0);
        Testing.type(x, TWO);
        x.load();
        T.due("5 the code is cleared by a setup", x.errorCode(), 0);
        T.due("6 the position is cleared by a setup", x.errorPosition(), -1);
    }

    private static void promises7to10counts() {
        PenOffice x = Testing.office("office 2 1 10 2 3 4 1;clerk a;clerk b;clerk c;clerk d;clerk e;clerk f;letter f 1 0 1 0;");
        T.due("7 clerkCount", x.clerkCount(), 6);
        T.due("8 letterCount", x.letterCount(), 1);
        x.addLetter(2, 1, 0, 1, 0);
        T.due("8 letterCount after addLetter", x.letterCount(), 2);
        T.due("10 policy", x.policy(), 2);
        x.setPolicy(4);
        T.due("10 policy after setPolicy", x.policy(), 4);
        T.due("9 minute", x.minute(), 0);
        Testing.passMany(x, 2000);
        T.due("9 minute at the end", x.minute(), 2000);
        T.due("8 finished letters count", x.letterCount(), 2);
    }

    /** holder, current letter, last letter, run, ink, rest of the refill, rest of the hand-over. */
    private static String penOf(PenOffice x) {
        return x.holder() + " " + x.currentLetter() + " " + x.lastLetter() + " " + x.runLength() + " " + x.ink() + " "
            + x.refillLeft() + " " + x.handOverLeft();
    }

    private static void promises11to17firstCome() {
        PenOffice x = new PenOffice();
        String[] after = {
            "-1 -1 -1 0 10 0 0", "0 -1 -1 0 10 0 0", "0 0 0 1 9 0 0", "0 0 0 2 8 0 0", "0 0 0 3 7 0 0", "0 0 0 4 6 0 0",
            "0 -1 0 5 5 0 0", "1 -1 0 5 5 0 0", "1 1 1 1 4 0 0", "1 -1 1 2 3 0 0", "0 -1 1 2 3 0 0", "0 2 2 1 2 0 0",
            "0 2 2 2 1 0 0", "0 -1 2 3 0 2 0", "0 -1 2 3 0 1 0", "0 -1 2 3 10 0 0", "1 -1 2 3 10 0 0", "1 3 3 1 9 0 0",
            "1 3 3 2 8 0 0", "1 3 3 3 7 0 0", "1 -1 3 4 6 0 0", "1 -1 3 4 6 0 0",
        };
        for (int minute = 0; minute < after.length; minute++) {
            T.due("11 to 17 first come at minute " + minute, penOf(x), after[minute]);
            x.pass(1);
        }
    }

    private static void promises11to17roundRobin() {
        // Quantum 2, blot 1, no hand-over times, ink for 3 minutes, refills of 1 minute.
        PenOffice x = Testing.office("office 4 0 3 1 2 4 1;clerk a;clerk b;letter a 4 0 99 0;letter b 3 0 99 0;");
        String[] after = {
            "-1 -1 -1 0 3 0 0", "0 0 0 1 2 0 0", "0 0 0 2 1 0 0", "1 1 1 1 0 1 0", "1 1 1 1 3 0 0", "1 1 1 2 2 0 0",
            "0 0 0 1 1 0 0", "0 0 0 2 0 1 0", "0 0 0 2 3 0 0", "1 1 1 1 2 0 0", "1 -1 1 2 1 0 0", "0 0 0 1 0 1 0",
            "0 0 0 1 3 0 0", "0 -1 0 2 2 0 0", "0 -1 0 2 2 0 0",
        };
        // Remaining: 4 3; 3; 2; 0 blotted to 3, 1 to 2; refill; 1 to 1; 1 blotted to 2, 0 to 2; 0 to 1; refill;
        // 0 blotted to 2, 1 to 1; 1 finished; 0 to 1; refill; 0 finished.
        for (int minute = 0; minute < after.length; minute++) {
            T.due("11 to 17 round robin at minute " + minute, penOf(x), after[minute]);
            x.pass(1);
        }
        T.due("39 blots of round robin", x.blots(), 3);
        T.due("40 hand-overs of round robin", x.handOvers(), 5);
    }

    private static void promise17longHandOver() {
        PenOffice x = Testing.office("office 0 5 99 1 2 4 1;clerk a;clerk b;letter b 1 0 99 0;");
        for (int left = 0; left < 6; left++) {
            T.due("17 handOverLeft at minute " + left, x.handOverLeft(), left == 0 ? 0 : 5 - left);
            T.due("17 holder at minute " + left, x.holder(), left == 0 ? -1 : 1);
            T.due("17 written at minute " + left, x.writtenMinutes(), 0);
            x.pass(1);
        }
        T.due("17 the letter is written after the hand-over", x.finishMinute(0), 6);
        x.setPolicy(1);
        x.addLetter(0, 2, 0, 99, 0);
        x.pass(2);
        x.addLetter(1, 1, 0, 99, 0);
        x.pass(3);
        T.due("17 no letter is selected during a hand-over", x.holder(), 0);
        x.pass(1);
        T.due("17 a letter is selected anew after it", x.holder(), 1);
        T.due("17 and a second hand-over begins", x.handOverLeft(), 4);
        T.due("17 hand-overs", x.handOvers(), 3);
    }

    private static void promises15and16refills() {
        PenOffice x = Testing.office("office 0 0 1 0 2 4 1;clerk a;clerk b;letter b 2 0 99 0;");
        x.pass(1);
        T.due("15 a refill without a time", x.ink(), 1);
        T.due("16 a refill without a time", x.refillLeft(), 0);
        x.pass(1);
        T.due("15 no minute is lost", x.finishMinute(0), 2);
        x = Testing.office("office 0 0 1 9 2 4 1;clerk a;clerk b;letter b 1 0 99 0;");
        x.pass(1);
        for (int left = 9; left > 0; left--) {
            T.due("16 refillLeft", x.refillLeft(), left);
            T.due("15 no ink during a refill", x.ink(), 0);
            x.pass(1);
        }
        T.due("16 refillLeft at the end", x.refillLeft(), 0);
        T.due("15 full ink at the end", x.ink(), 1);
        T.due("42 refills are not idle", x.idleMinutes(), 0);
    }

    private static void promise18nameByte() {
        PenOffice x = Testing.office(HEAD + "clerk abcdef;clerk z;");
        T.due("18 nameByte(0, 0)", x.nameByte(0, 0), 97);
        T.due("18 nameByte(0, 5)", x.nameByte(0, 5), 102);
        T.due("18 nameByte(1, 0)", x.nameByte(1, 0), 122);
        T.refused("18 nameByte(0, 6)", IndexOutOfBoundsException.class, () -> x.nameByte(0, 6));
        T.refused("18 nameByte(1, 1)", IndexOutOfBoundsException.class, () -> x.nameByte(1, 1));
        T.refused("18 nameByte(0, -1)", IndexOutOfBoundsException.class, () -> x.nameByte(0, -1));
        T.refused("18 nameByte(-1, 0)", IndexOutOfBoundsException.class, () -> x.nameByte(-1, 0));
        T.refused("18 nameByte(2, 0)", IndexOutOfBoundsException.class, () -> x.nameByte(2, 0));
        T.refused("18 nameByte of great numbers", IndexOutOfBoundsException.class,
            () -> x.nameByte(Integer.MAX_VALUE, Integer.MIN_VALUE));
    }

    private static void promise19findClerk() {
        PenOffice x = Testing.office(HEAD + "clerk bob;clerk bobby;clerk bo;");
        Testing.type(x, "bobby");
        T.due("19 bobby", x.findClerk(), 1);
        T.due("19 the buffer stays", x.truncate(5), 5);
        x.truncate(4);
        T.refused("19 bobb", NoSuchElementException.class, x::findClerk);
        x.truncate(3);
        T.due("19 bob", x.findClerk(), 0);
        x.truncate(2);
        T.due("19 bo", x.findClerk(), 2);
        x.truncate(1);
        T.refused("19 b", NoSuchElementException.class, x::findClerk);
        x.truncate(0);
        T.refused("19 nothing", NoSuchElementException.class, x::findClerk);
        Testing.type(x, "bob ");
        T.refused("19 bob and a space", NoSuchElementException.class, x::findClerk);
        x.truncate(0);
        Testing.type(x, " bob");
        T.refused("19 a space and bob", NoSuchElementException.class, x::findClerk);
        x.truncate(0);
        Testing.type(x, "bob".repeat(200));
        T.refused("19 a full buffer", NoSuchElementException.class, x::findClerk);
        x.truncate(0);
        Testing.type(x, "ann");
        T.refused("19 a clerk of the office before", NoSuchElementException.class, x::findClerk);
    }
}
