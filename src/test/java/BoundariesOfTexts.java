/** The terms from "texts" on: a test for each sentence that names a boundary. */
final class BoundariesOfTexts {
    private static final String HEAD = "office 1 1 1 1 1 1 1;";
    private static final String[] WORDS = {"letter bob", "pass", "policy", "deadline", "priority", "discard"};
    private static final int[] NUMBERS = {4, 1, 1, 2, 2, 1};

    private BoundariesOfTexts() {
    }

    static void addTo(Sentences all) {
        inputBuffer(all);
        tokens(all);
        setupGrammar(all);
        scriptGrammar(all);
        commands(all);
        errors(all);
        errorCodes(all);
        execution(all);
        changes(all);
        states(all);
        exceptions(all);
        faces(all);
        all.withoutBoundary(0,
            "Texts", "The tokens of a text are words, numbers and semicolons", "The grammar is as follows, with literal words in quotes",
            "The name of a letter is the name of its clerk", "Errors", "Undo",
            "Ahead of the calls append, truncate, load, errorCode, errorPosition the interface says: ---- input",
            "Ahead of the calls clerkCount, letterCount, minute, policy, holder, currentLetter, lastLetter, runLength, ink, refillLeft, handOverLeft,"
                + " nameByte, findClerk the interface says: ---- office",
            "Ahead of the calls clerkOf, length, arrival, deadline, priority, remaining, finishMinute, waitingTime, effectivePriority, isReady, readyCount,"
                + " selectedLetter, selectedBy, openLettersOf, workOf, busiestClerk the interface says: ---- letters",
            "Ahead of the calls finishedCount, lateCount, greatestLateness, blots, handOvers, writtenMinutes, idleMinutes, utilization, meanTurnaround,"
                + " inconsistencies the interface says: ---- results",
            "Ahead of the calls addLetter, pass, setPolicy, setDeadline, setPriority, extend, discard, runScript the interface says: ---- changes",
            "Ahead of the calls undo, save, restore, writeLetters, outputByte the interface says: ---- undo, saved states, output");
    }

    private static void inputBuffer(Sentences all) {
        all.test(0, "The input buffer holds at most 600 bytes", t -> {
            PenOffice x = new PenOffice();
            Testing.type(x, "pass 1;" + " ".repeat(586) + "pass 2;");
            t.refused("a 31st append", Testing.STATE, () -> x.append(0, 0, 0, 0, 0));
            t.due("the commands of a full buffer", x.runScript(), 2);
            t.due("their minutes", x.minute(), 3);
            Testing.type(x, " ".repeat(599));
            t.refused("behind 599 bytes", Testing.STATE, () -> x.append(0, 0, 0, 0, 0));
            x.truncate(580);
            t.due("behind 580 bytes", x.append(0, 0, 0, 0, 0), 600);
        });
        all.test(0, "It is empty at first", t -> {
            PenOffice x = new PenOffice();
            t.refused("a byte of it", Testing.ARGUMENT, () -> x.truncate(1));
            t.refused("a setup", Testing.ARGUMENT, x::load);
            t.due("the position of its end", x.errorPosition(), 0);
            t.due("the first append", new PenOffice().append(0, 0, 0, 0, 0), 20);
        });
    }

    private static void tokens(Sentences all) {
        all.test(0, "A word is a maximal run of the letters a to z", t -> {
            Boundaries.rightSetup(t, "office 0 0 99 0 2 5 0;clerk az;clerk za;letter za 1 0 1 0;", 1);
            Boundaries.wrongSetup(t, HEAD + "clerk a|`;", 1);
            Boundaries.wrongSetup(t, HEAD + "clerk a|{;", 1);
            Boundaries.wrongSetup(t, HEAD + "clerk z|A;", 1);
            Boundaries.wrongSetup(t, HEAD + "clerk z|Z;", 1);
            Boundaries.wrongSetup(t, HEAD + "|clerka;", 1);
            Boundaries.wrongScript(t, "|pas 1;", 1);
            Boundaries.wrongScript(t, "|passs 1;", 1);
            Boundaries.rightScript(t, "pass1;policy2;", 2);
        });
        all.test(0, "A number is a maximal run of decimal digits", t -> {
            PenOffice x = new PenOffice();
            t.due("three numbers", Testing.script(x, "pass 10;pass009;pass 99;"), 3);
            t.due("their sum", x.minute(), 118);
            Boundaries.wrongScript(t, "pass |/;", 1);
            Boundaries.wrongScript(t, "pass |:;", 1);
            Boundaries.wrongScript(t, "pass 0|/;", 1);
            Boundaries.wrongScript(t, "pass 9|:;", 1);
            Boundaries.wrongScript(t, "pass 1|a;", 1);
            Boundaries.wrongScript(t, "pass |-1;", 1);
            // A number 0 would have code 2.
            Boundaries.wrongSetup(t, "office 0 0 |/", 1);
            Boundaries.wrongSetup(t, "office 0 0 |:", 1);
        });
        all.test(0, "Spaces (byte 32) and line feeds (byte 10) separate tokens and have no other meaning", t -> {
            for (int sign = 0; sign < 256; sign++) {
                PenOffice x = new PenOffice();
                Testing.type(x, "pass" + (char) sign + "9;");
                if (sign == ' ' || sign == '\n' || sign >= '0' && sign <= '9') {
                    t.due("a command with byte " + sign, x.runScript(), 1);
                } else {
                    t.refused("a command with byte " + sign, Testing.ARGUMENT, x::runScript);
                    t.due("the position with byte " + sign, x.errorPosition(), sign >= 'a' && sign <= 'z' ? 0 : 4);
                }
            }
            Boundaries.rightScript(t, "\n \n\npass\n\n  1 \n;  \npolicy 1;pass 2\n;\n ", 3);
            Boundaries.rightScript(t, " \n ", 0);
            Boundaries.wrongScript(t, "pass 1 |2;", 1);
            Boundaries.wrongScript(t, "|pa ss 1;", 1);
        });
        all.test(0, "A word of more than 8 letters, a number of more than 3 digits and any other byte are invalid tokens", t -> {
            Boundaries.wrongSetup(t, HEAD + "clerk |abcdefgh;", 3);
            Boundaries.wrongSetup(t, HEAD + "clerk |abcdefghi;", 1);
            Boundaries.rightScript(t, "priority 0 1;deadline 000 999;", 2);
            Boundaries.wrongScript(t, "deadline 0 |1000;", 1);
            Boundaries.wrongScript(t, "deadline |0000 1;", 1);
            Boundaries.wrongScript(t, "deadline 0 |999999999999;", 1);
            for (int sign = 0; sign < 256; sign++) {
                // The bar marks the error in the text, and the test of spaces and line feeds tries it.
                boolean known = sign == '|' || sign >= 'a' && sign <= 'z' || sign >= '0' && sign <= '9' || sign == ';' || sign == ' ' || sign == '\n';
                if (!known) {
                    // A name that no clerk has would have code 3.
                    Boundaries.wrongScript(t, "letter |" + (char) sign + "zoe 1 1 1 1;", 1);
                }
            }
        });
    }

    private static void setupGrammar(Sentences all) {
        all.test(0, "setup = \"office\" policy handover ink refill quantum aging blot \";\" clerk \";\" clerk \";\" { clerk \";\" } { letter \";\" }", t -> {
            String[] tokens = ("office 1 1 1 1 1 1 1 ; clerk a ; clerk b ; clerk c ; letter c 1 1 1 1 ; letter a 1 1 1 1 ;").split(" ");
            String text = "";
            for (int n = 0; n <= tokens.length; n++) {
                if (n == 15 || n == 18 || n == 25 || n == 32) {
                    Boundaries.rightSetup(t, text, n < 25 ? 0 : n == 25 ? 1 : 2);
                } else {
                    Boundaries.wrongSetup(t, text + "|", 1);
                    Boundaries.wrongSetup(t, text + "|@", 1);
                }
                text += n < tokens.length ? tokens[n] + " " : "";
            }
            Boundaries.wrongSetup(t, "office 1 1 1 1 1 1|;clerk a;clerk b;", 1);
            Boundaries.wrongSetup(t, "office 1 1 1 1 1 1 1 |1;clerk a;clerk b;", 1);
            Boundaries.wrongSetup(t, "|clerk a;clerk b;", 1);
            Boundaries.wrongSetup(t, "|1 1 1 1 1 1 1;clerk a;clerk b;", 1);
            Boundaries.wrongSetup(t, "|affice 1 1 1 1 1 1 1;clerk a;clerk b;", 1);
            Boundaries.wrongSetup(t, "|officd 1 1 1 1 1 1 1;clerk a;clerk b;", 1);
            Boundaries.wrongSetup(t, HEAD + "clerk a;|;clerk b;", 1);
            Boundaries.wrongSetup(t, HEAD + "clerk a;clerk b;|;", 1);
            Boundaries.wrongSetup(t, HEAD + "clerk a;|letter a 1 1 1 1;clerk b;", 1);
            Boundaries.wrongSetup(t, HEAD + "clerk a;clerk b;letter a 1 1 1 1;|clerk c;", 1);
            Boundaries.wrongSetup(t, HEAD + "clerk a;clerk b;letter a 1 1 1 1;|;", 1);
        });
        all.test(0, "clerk = \"clerk\" name", t -> {
            Boundaries.wrongSetup(t, HEAD + "clerk|;clerk b;", 1);
            Boundaries.wrongSetup(t, HEAD + "clerk a |b;", 1);
            Boundaries.wrongSetup(t, HEAD + "clerk |1;", 1);
            Boundaries.wrongSetup(t, HEAD + "|a;", 1);
            Boundaries.wrongSetup(t, HEAD + "|clerks a;", 1);
        });
        all.test(0, "letter = \"letter\" name length arrival deadline priority", t -> {
            String two = HEAD + "clerk a;clerk b;";
            Boundaries.wrongSetup(t, two + "letter a 1 1 1|;", 1);
            Boundaries.wrongSetup(t, two + "letter a 1 1 1 1 |1;", 1);
            Boundaries.wrongSetup(t, two + "letter |1 1 1 1;", 1);
            Boundaries.wrongSetup(t, two + "letter a |b 1 1 1 1;", 1);
            Boundaries.wrongSetup(t, two + "letter a 1 1 1 |b;", 1);
            Boundaries.wrongSetup(t, two + "|a 1 1 1 1;", 1);
            PenOffice x = Testing.office(two + "letter b 4 3 2 1;");
            t.due("the order of the numbers", x.clerkOf(0) + " " + x.length(0) + " " + x.arrival(0) + " " + x.deadline(0) + " " + x.priority(0), "1 4 3 2 1");
        });
    }

    private static void scriptGrammar(Sentences all) {
        all.test(0, "script = { command \";\" }", t -> {
            Boundaries.rightScript(t, "", 0);
            Boundaries.rightScript(t, "pass 1;", 1);
            Boundaries.wrongScript(t, "pass 1|", 1);
            Boundaries.wrongScript(t, "pass 1;pass 1|", 1);
            Boundaries.wrongScript(t, "pass 1 |pass 1;", 1);
            Boundaries.wrongScript(t, "|;", 1);
            Boundaries.wrongScript(t, "pass 1;|;", 1);
        });
        all.test(0, "command = letter | \"pass\" minutes | \"policy\" policy | \"deadline\" letternumber deadline | \"priority\" letternumber priority"
            + " | \"discard\" letternumber", t -> {
            for (int i = 0; i < WORDS.length; i++) {
                String text = WORDS[i];
                for (int n = 0; n < NUMBERS[i]; n++) {
                    Boundaries.wrongScript(t, text + "|;", 1);
                    Boundaries.wrongScript(t, text + "|", 1);
                    Boundaries.wrongScript(t, text + " |one;", 1);
                    text += " 1";
                }
                Boundaries.wrongScript(t, text + " |1;", 1);
                Boundaries.wrongScript(t, text + " |a;", 1);
                PenOffice x = new PenOffice();
                x.pass(1);
                t.due(text, Testing.script(x, text + ";"), 1);
            }
            for (String word : new String[] {"extend 1 1;", "office 1;", "clerk a;", "undo;", "save 1;", "letters ann 1 1 1 1;", "a;"}) {
                Boundaries.wrongScript(t, "pass 1;|" + word, 1);
            }
            Boundaries.wrongScript(t, "letter |1 1 1 1;", 1);
        });
    }

    private static void commands(Sentences all) {
        all.test(0, "In a script the arrival of a letter is its delay (see addLetter())", t -> {
            PenOffice x = Boundaries.plain("");
            x.pass(5);
            t.due("two letters", Testing.script(x, "letter a 1 0 1 0;letter b 1 999 1 0;"), 2);
            t.due("their arrivals", x.arrival(0) + " " + x.arrival(1), "5 1004");
            Testing.passMany(x, 1995);
            t.due("a letter at minute 2000", Testing.script(x, "letter a 1 0 1 0;letter a 1 1 1 0;"), 1);
            t.due("its arrival", x.arrival(2), 2000);
        });
        all.test(0, "The commands call addLetter (with the clerk of the name), pass, setPolicy, setDeadline, setPriority and discard", t -> {
            String[] right = {
                "letter ann 1 0 1 0", "letter bob 30 999 999 9", "pass 1", "pass 300", "policy 0", "policy 4", "deadline 0 1", "deadline 3 999",
                "priority 0 0", "priority 3 9", "discard 0",
            };
            String[] wrong = {
                "letter ann 0 0 1 0", "letter ann 31 0 1 0", "letter ann 1 0 0 0", "letter ann 1 0 1 10", "pass 0", "pass 301", "policy 5", "deadline 0 0",
                "deadline 4 1", "priority 0 10", "priority 4 0", "discard 4", "discard 1",
            };
            for (String command : right) {
                Boundaries.rightScript(t, command + ";", 1);
            }
            for (String command : wrong) {
                Boundaries.rightScript(t, command + ";", 0);
            }
            PenOffice x = new PenOffice();
            Testing.script(x, "letter bob 30 999 998 9;policy 4;deadline 3 997;priority 2 8;discard 0;pass 2;");
            t.due("what they did", x.clerkOf(4) + " " + x.length(4) + " " + x.arrival(4) + " " + x.deadline(4) + " " + x.priority(4) + " " + x.policy() + " "
                + x.deadline(3) + " " + x.priority(2) + " " + x.finishMinute(0) + " " + x.minute(), "1 30 999 998 9 4 997 8 0 2");
        });
    }

    private static void errors(Sentences all) {
        all.test(0, "A text is parsed from left to right", t -> {
            Boundaries.wrongSetup(t, "office |5 0 0 10 0 0 6;@", 2);
            Boundaries.wrongSetup(t, "office 0 0 1 0 1 1 0;clerk |abcdefg@", 3);
            Boundaries.wrongScript(t, "letter |zoe @", 3);
            Boundaries.wrongScript(t, "policy 1;".repeat(30) + "|pass @", 4);
        });
        all.test(0, "The first token with an error determines the error code and the error position", t -> {
            Boundaries.wrongSetup(t, Boundaries.PLAIN + "letter a |31 0 0 10;letter", 2);
            Boundaries.wrongSetup(t, Boundaries.PLAIN + "letter |c 0 0 0 0;", 3);
            Boundaries.wrongSetup(t, Boundaries.PLAIN + "letter a 30 0 |0 10;", 2);
            Boundaries.wrongSetup(t, Boundaries.PLAIN + "clerk |b", 3);
            Boundaries.wrongScript(t, "letter |zoe 1", 3);
            Boundaries.wrongScript(t, "pass 1 |letter zoe", 1);
        });
        all.test(0, "The error position is the index of the first byte of this token, or the length of the text if the text ends too early", t -> {
            Boundaries.wrongSetup(t, "|;", 1);
            Boundaries.wrongSetup(t, "|", 1);
            Boundaries.wrongSetup(t, "office   |", 1);
            Boundaries.wrongScript(t, "   |passed 1;", 1);
            Boundaries.wrongScript(t, "pass\n|", 1);
            Boundaries.wrongScript(t, " ".repeat(599) + "|a", 1);
            Boundaries.wrongScript(t, " ".repeat(591) + "|abcdefghi", 1);
            Boundaries.wrongScript(t, "pass" + " ".repeat(596) + "|", 1);
            Boundaries.wrongScript(t, " ".repeat(594) + "pass 1|", 1);
            PenOffice x = new PenOffice();
            Testing.type(x, "pass 1;@");
            x.truncate(6);
            t.refused("a text cut before its semicolon", Testing.ARGUMENT, x::runScript);
            t.due("its error position", x.errorPosition(), 6);
        });
        all.test(0, "If several errors apply to the same token, the lowest code is reported", t -> {
            Boundaries.wrongSetup(t, Boundaries.PLAIN + "clerk |abcdefghi;", 1);
            Boundaries.wrongSetup(t, Boundaries.PLAIN + "letter |abcdefghi 1 0 1 0;", 1);
            Boundaries.wrongSetup(t, "office |9999 0 99 0 2 5 0;", 1);
            Boundaries.wrongSetup(t, Boundaries.PLAIN + "letter a 1 0 1 0;".repeat(12) + "|clerk a;", 1);
            Boundaries.wrongSetup(t, Boundaries.PLAIN + "letter a 1 0 1 0;".repeat(12) + "|letterletter", 1);
            Boundaries.wrongSetup(t, Boundaries.SIX_CLERKS + "|clerkclerk", 1);
            Boundaries.wrongScript(t, "policy 1;".repeat(30) + "|zoe", 1);
            Boundaries.wrongScript(t, "policy 1;".repeat(30) + "|passpasspass", 1);
            Boundaries.wrongScript(t, "policy 1;".repeat(30) + "|office", 1);
            Boundaries.wrongScript(t, "policy 1;".repeat(30) + "|7", 1);
        });
    }

    private static void errorCodes(Sentences all) {
        all.test(0, "code 1: an invalid token, a token that the grammar does not allow at this place, or an unexpected end of the text", t -> {
            Boundaries.wrongSetup(t, "office |#", 1);
            Boundaries.wrongSetup(t, "office |office", 1);
            Boundaries.wrongSetup(t, "office|", 1);
            Boundaries.wrongScript(t, "pass |1234;", 1);
            Boundaries.wrongScript(t, "pass |pass;", 1);
            Boundaries.wrongScript(t, "pass 1|", 1);
        });
        all.test(0, "code 2: a number out of range in a setup text (numbers in a script are not checked by the parser)", t -> {
            int[] least = {0, 0, 1, 0, 1, 1, 0};
            int[] most = {4, 5, 99, 9, 9, 20, 5};
            for (int place = 0; place < 7; place++) {
                Boundaries.wrongSetup(t, numbers("office", place, "|" + (most[place] + 1), 7), 2);
                Boundaries.wrongSetup(t, numbers("office", place, "|999", 7), 2);
                if (least[place] > 0) {
                    Boundaries.wrongSetup(t, numbers("office", place, "|000", 7), 2);
                }
            }
            Boundaries.wrongSetup(t, Boundaries.PLAIN + numbers("letter a", 0, "|0", 4), 2);
            Boundaries.wrongSetup(t, Boundaries.PLAIN + numbers("letter a", 0, "|31", 4), 2);
            Boundaries.wrongSetup(t, Boundaries.PLAIN + numbers("letter a", 2, "|0", 4), 2);
            Boundaries.wrongSetup(t, Boundaries.PLAIN + numbers("letter a", 3, "|10", 4), 2);
            for (int i = 0; i < WORDS.length; i++) {
                for (int place = 0; place < NUMBERS[i]; place++) {
                    for (String number : new String[] {"0", "999"}) {
                        PenOffice x = new PenOffice();
                        Testing.type(x, numbers(WORDS[i], place, number, NUMBERS[i]));
                        x.runScript();
                        t.due("errorCode of " + WORDS[i] + " with " + number, x.errorCode() + " " + x.errorPosition(), "0 -1");
                    }
                }
            }
        });
        all.test(0, "code 3: a name of more than 6 letters, the name of a new clerk that an earlier clerk has, or the name of a clerk that does not exist", t -> {
            Boundaries.wrongSetup(t, HEAD + "clerk |abcdefg;", 3);
            Boundaries.wrongSetup(t, HEAD + "clerk |abcdefgh;", 3);
            Boundaries.rightSetup(t, HEAD + "clerk abcdef;clerk b;", 0);
            Boundaries.wrongSetup(t, HEAD + "clerk abcdef;clerk |abcdef", 3);
            Boundaries.wrongSetup(t, Boundaries.PLAIN + "letter |abcdefg 1 1 1 1;", 3);
            Boundaries.wrongSetup(t, Boundaries.PLAIN + "letter |c 1 1 1 1;", 3);
            Boundaries.wrongSetup(t, Boundaries.PLAIN + "letter |ab 1 1 1 1;", 3);
            Boundaries.wrongScript(t, "letter |abcdefg", 3);
            Boundaries.wrongScript(t, "letter |an", 3);
            Boundaries.wrongScript(t, "letter |annann", 3);
            PenOffice x = Testing.office(Boundaries.SIX_CLERKS);
            t.due("the first and the last clerk", Testing.script(x, "letter a 1 0 1 0;letter f 1 0 1 0;"), 2);
            Testing.type(x, "letter g 1 0 1 0;");
            t.refused("a 7th clerk", Testing.ARGUMENT, x::runScript);
            t.due("its code", x.errorCode() + " " + x.errorPosition(), "3 7");
        });
        all.test(0, "code 4: in a setup, the word \"clerk\" of a 7th clerk or the word \"letter\" of a 13th letter", t -> {
            Boundaries.wrongSetup(t, Boundaries.SIX_CLERKS + "|clerk", 4);
            Boundaries.wrongSetup(t, Boundaries.SIX_CLERKS + " |clerk a;", 4);
            Boundaries.rightSetup(t, Boundaries.SIX_CLERKS + "letter f 1 0 1 0;".repeat(12), 12);
            Boundaries.wrongSetup(t, Boundaries.SIX_CLERKS + "letter f 1 0 1 0;".repeat(12) + "|letter", 4);
            Boundaries.wrongSetup(t, Boundaries.PLAIN + "letter b 1 0 1 0;".repeat(12) + " |letter c 0 0 0 10;", 4);
        });
        all.test(0, "the first word of a 31st command", t -> {
            String thirty = "policy 1;".repeat(30);
            Boundaries.rightScript(t, thirty, 30);
            for (String word : WORDS) {
                Boundaries.wrongScript(t, thirty + "|" + word, 4);
            }
            Boundaries.wrongScript(t, thirty + " \n|policy 1;", 4);
            Boundaries.wrongScript(t, "policy 9;".repeat(30) + "|policy 1;", 4);
        });
        all.test(0, "A word of the grammar can be a name wherever the grammar requires a name", t -> {
            String five = "clerk office;clerk clerk;clerk letter;clerk pass;clerk policy;";
            PenOffice x = Testing.office("office 0 0 99 0 2 5 0;" + five + "letter office 1 0 1 0;letter letter 1 0 1 0;letter clerk 1 0 1 0;");
            t.due("clerks of a setup", x.clerkOf(0) + " " + x.clerkOf(1) + " " + x.clerkOf(2), "0 2 1");
            t.due("letters of a script", Testing.script(x, "letter pass 1 0 1 0;letter policy 1 0 1 0;"), 2);
            t.due("their clerks", x.clerkOf(3) + " " + x.clerkOf(4), "3 4");
            Boundaries.wrongSetup(t, HEAD + "clerk |discard;", 3);
            Boundaries.wrongSetup(t, HEAD + "clerk |deadline;", 3);
        });
    }

    private static String numbers(String word, int place, String number, int count) {
        StringBuilder text = new StringBuilder(word);
        for (int i = 0; i < count; i++) {
            text.append(' ').append(i == place ? number : "1");
        }
        return text + ";";
    }

    private static void execution(Sentences all) {
        all.test(0, "A script without an error is executed command by command", t -> {
            PenOffice x = new PenOffice();
            t.due("commands that need those before them", Testing.script(x, "pass 1;discard 1;letter bob 9 0 9 9;discard 4;"), 4);
            t.due("the letters", x.remaining(1) + " " + x.finishMinute(1) + " " + x.length(4) + " " + x.remaining(4), "0 1 9 0");
            PenOffice y = Boundaries.plain("");
            t.due("thirty commands", Testing.script(y, "pass 1;".repeat(29) + "pass 2;"), 30);
            t.due("their minutes", y.minute(), 31);
            t.due("no command", y.runScript(), 0);
        });
        all.test(0, "Execution stops at the first command whose method would throw an exception", t -> {
            Boundaries.rightScript(t, "pass 0;policy 1;", 0);
            Boundaries.rightScript(t, "policy 1;policy 5;policy 2;policy 5;", 1);
            Boundaries.rightScript(t, "policy 1;".repeat(29) + "discard 9;", 29);
            Boundaries.rightScript(t, "letter ann 1 0 1 0;".repeat(9), 8);
            PenOffice x = Boundaries.plain("");
            Testing.passMany(x, 1999);
            t.due("at minute 1999", Testing.script(x, "letter a 1 1 1 0;pass 1;letter a 1 0 1 0;letter a 1 1 1 0;"), 3);
            t.due("at minute 2000", Testing.script(x, "policy 1;pass 1;"), 1);
        });
        all.test(0, "this command and all later ones are not executed", t -> {
            PenOffice x = new PenOffice();
            PenOffice y = new PenOffice();
            Testing.script(x, "pass 2;priority 0 10;priority 0 9;pass 1;");
            y.pass(2);
            t.due("the state", Testing.stateOf(x), Testing.stateOf(y));
            PenOffice z = new PenOffice();
            Testing.script(z, "discard 1;policy 4;");
            t.due("when the first would throw", Testing.stateOf(z), Testing.stateOf(new PenOffice()));
        });
    }

    private static void change(PenOffice x, int which) {
        switch (which) {
            case 0: x.pass(9); break;
            case 1: x.addLetter(0, 9, 9, 9, 9); break;
            case 2: x.setPolicy(4); break;
            case 3: x.setDeadline(1, 99); break;
            case 4: x.setPriority(2, 8); break;
            case 5: x.extend(1, 9); break;
            case 6: x.discard(0); break;
            default: Testing.script(x, "policy 3;pass 30;discard 1;"); break;
        }
    }

    private static Testing.Call refusedChange(PenOffice x, int which) {
        switch (which) {
            case 0: return () -> x.pass(301);
            case 1: return () -> x.addLetter(2, 9, 9, 9, 9);
            case 2: return () -> x.setPolicy(5);
            case 3: return () -> x.setDeadline(1, 0);
            case 4: return () -> x.setPriority(2, 10);
            case 5: return () -> x.extend(1, 29);
            case 6: return () -> x.discard(1);
            default: return () -> Testing.script(x, "policy 3;pass 30;discard;");
        }
    }

    private static void changes(Sentences all) {
        all.test(0, "The methods in the section \"changes\" are changes if they do not throw an exception", t -> {
            for (int which = 0; which < 8; which++) {
                PenOffice x = new PenOffice();
                change(x, which);
                t.due("undo of change " + which, x.undo(), 0);
                t.due("the state without change " + which, Testing.stateOf(x), Testing.stateOf(new PenOffice()));
                t.refused("a second undo", Testing.STATE, x::undo);
                PenOffice y = new PenOffice();
                try {
                    t.due("change " + which + ", which is refused", refusedChange(y, which).run(), "an exception");
                } catch (RuntimeException e) {
                    t.refused("undo of a refused change " + which, Testing.STATE, y::undo);
                }
            }
        });
        all.test(0, "The latest 6 changes can be undone", t -> {
            for (int changes = 0; changes <= 13; changes++) {
                PenOffice x = Boundaries.plain("");
                for (int i = 0; i < changes; i++) {
                    x.pass(1);
                }
                int most = Math.min(changes, 6);
                for (int left = most - 1; left >= 0; left--) {
                    t.due("undo of " + changes + " changes", x.undo() + " " + x.minute(), left + " " + (changes - most + left));
                }
                t.refused("one undo more of " + changes + " changes", Testing.STATE, x::undo);
            }
            PenOffice y = Boundaries.plain("");
            for (int i = 1; i <= 6; i++) {
                y.pass(i);
            }
            y.undo();
            y.undo();
            y.pass(7);
            y.pass(8);
            y.pass(9);
            int[] minutes = {25, 17, 10, 6, 3, 1};
            for (int left = 5; left >= 0; left--) {
                t.due("undo of changes behind undone ones", y.undo() + " " + y.minute(), left + " " + minutes[5 - left]);
            }
            t.refused("a seventh undo", Testing.STATE, y::undo);
        });
    }

    private static void states(Sentences all) {
        all.test(0, "Undoing, saving and restoring affect the whole state, including all counters, except the input buffer, the error code, the error"
            + " position, the output text and the saved states", t -> {
            PenOffice x = Boundaries.withSettings("4 2 3 4 2 3 1", "letter a 9 0 9 0;letter b 9 1 5 3;letter a 4 2 9 9;");
            x.pass(20);
            String first = Testing.stateOf(x);
            x.save(0);
            Testing.script(x, "letter a 1 0 1 1;policy 0;deadline 0 77;priority 0 7;discard 3;pass 40;");
            String second = Testing.stateOf(x);
            x.save(1);
            String text = Testing.output(x);
            Testing.type(x, "policy 4;z");
            t.refused("a wrong script", Testing.ARGUMENT, x::runScript);
            Testing.type(x, "b");
            x.undo();
            t.due("the state after undo", Testing.stateOf(x), first);
            whatStays(t, x, text);
            t.due("restore(1) after undo", x.restore(1), 60);
            t.due("the state after restore(1)", Testing.stateOf(x), second);
            whatStays(t, x, text);
            t.due("restore(0)", x.restore(0), 20);
            t.due("the state after restore(0)", Testing.stateOf(x), first);
            whatStays(t, x, text);
            t.due("restore(1) again", x.restore(1), 60);
        });
    }

    private static void whatStays(Testing t, PenOffice x, String text) {
        t.due("the error", x.errorCode() + " " + x.errorPosition(), "1 9");
        t.due("the input", x.truncate(1) + " " + x.findClerk(), "1 1");
        t.due("the first byte of the output", x.outputByte(0), (int) text.charAt(0));
        t.due("the last byte of the output", x.outputByte(text.length() - 1), (int) text.charAt(text.length() - 1));
        t.refused("a byte behind it", Testing.INDEX, () -> x.outputByte(text.length()));
    }

    private static void exceptions(Sentences all) {
        all.test(0, "A method that throws an exception changes nothing unless its description says otherwise", t -> {
            for (int which = 0; which < 7; which++) {
                PenOffice x = new PenOffice();
                x.setPolicy(1);
                t.refusedAndKept(x, "change " + which, which == 1 ? Testing.INDEX : which < 5 ? Testing.ARGUMENT : Testing.STATE, refusedChange(x, which));
                t.due("undo after it", x.undo(), 0);
            }
            PenOffice y = new PenOffice();
            y.setPolicy(1);
            y.save(1);
            y.setPolicy(2);
            t.refusedAndKept(y, "restore(0)", Testing.STATE, () -> y.restore(0));
            t.refusedAndKept(y, "restore(2)", Testing.INDEX, () -> y.restore(2));
            t.refused("save(2)", Testing.INDEX, () -> y.save(2));
            t.due("the history", y.undo(), 1);
            t.due("the saved state", y.restore(1) + " " + y.policy(), "0 1");
            Testing.type(y, "bob" + " ".repeat(597));
            t.refused("append to a full buffer", Testing.STATE, () -> y.append(0x61616161, 0, 0, 0, 0));
            t.refused("truncate(601)", Testing.ARGUMENT, () -> y.truncate(601));
            t.refused("findClerk", Testing.ELEMENT, y::findClerk);
            t.due("the whole buffer is there", y.truncate(600), 600);
            t.due("the buffer", y.truncate(3) + " " + y.findClerk(), "3 1");
        });
        all.test(0, "If several exceptions apply, the one that is listed first is thrown", t -> {
            PenOffice x = Boundaries.plain("letter a 1 0 9 0;".repeat(11) + "letter b 9 0 9 0;");
            t.refused("addLetter of no clerk, no length and as a 13th", Testing.INDEX, () -> x.addLetter(2, 0, 0, 1, 0));
            t.refused("addLetter of no clerk and as a 13th", Testing.INDEX, () -> x.addLetter(-1, 1, 0, 1, 0));
            t.refused("addLetter without a length and as a 13th", Testing.ARGUMENT, () -> x.addLetter(0, 0, 0, 1, 0));
            t.refused("addLetter with priority 10 and as a 13th", Testing.ARGUMENT, () -> x.addLetter(0, 1, 0, 1, 10));
            t.refused("setDeadline of no letter and with no deadline", Testing.INDEX, () -> x.setDeadline(12, 0));
            t.refused("setPriority of no letter and with no priority", Testing.INDEX, () -> x.setPriority(12, 10));
            t.refused("extend of no letter and by nothing", Testing.INDEX, () -> x.extend(12, 0));
            x.discard(0);
            t.refused("extend of a finished letter by nothing", Testing.ARGUMENT, () -> x.extend(0, 0));
            t.refused("extend of a finished letter by 30", Testing.ARGUMENT, () -> x.extend(0, 30));
            t.refused("restore of no slot, with nothing saved", Testing.INDEX, () -> x.restore(-1));
            PenOffice y = Boundaries.plain("");
            Testing.passMany(y, 2000);
            t.refused("pass(301) at minute 2000", Testing.ARGUMENT, () -> y.pass(301));
            t.refused("pass(0) at minute 2000", Testing.ARGUMENT, () -> y.pass(0));
            t.refused("addLetter with delay 1000 at minute 2000", Testing.ARGUMENT, () -> y.addLetter(0, 1, 1000, 1, 0));
            t.refused("addLetter of no clerk with delay 1 at minute 2000", Testing.INDEX, () -> y.addLetter(2, 1, 1, 1, 0));
        });
    }

    private static void faces(Sentences all) {
        all.test(0, "The constants: NONE = -1: Returned where there is no clerk, no letter or no minute", t -> {
            t.due("NONE", PenOffice.NONE, -1);
            PenOffice x = Boundaries.plain("letter a 1 1 9 0;");
            t.due("no clerk", x.holder(), -1);
            t.due("no letter", x.currentLetter() + " " + x.lastLetter() + " " + x.selectedLetter() + " " + x.selectedBy(0) + " " + x.letterWrittenIn(0),
                "-1 -1 -1 -1 -1");
            t.due("no minute", x.finishMinute(0), -1);
            t.due("no position", x.errorPosition(), -1);
            PenOffice y = Boundaries.slow(6, 0);
            t.due("no minute to finish", y.minutesToFinish() + " " + y.minutesToFinishLetter(5), "-1 -1");
        });
        all.test(0, "Ahead of the calls minutesToFinish, minutesToFinishLetter, letterWrittenIn, lateWith, waitingWith, bestPolicy, fewestLate the interface"
            + " says: ---- forecasts and comparisons (nothing changes", t -> {
            PenOffice x = Boundaries.withSettings("4 2 3 4 2 3 1", "letter a 9 0 9 0;letter b 9 1 5 3;letter a 4 2 9 9;");
            for (int minute = 0; minute < 12; minute++) {
                PenOffice y = Boundaries.withSettings("4 2 3 4 2 3 1", "letter a 9 0 9 0;letter b 9 1 5 3;letter a 4 2 9 9;");
                for (int passed = 0; passed < minute; passed++) {
                    y.pass(1);
                }
                String before = Testing.stateOf(y);
                y.minutesToFinish();
                y.minutesToFinishLetter(2);
                y.letterWrittenIn(300);
                y.lateWith(0);
                y.waitingWith(1);
                y.bestPolicy();
                y.fewestLate();
                t.due("the state at minute " + minute, Testing.stateOf(y), before);
                t.due("the same without forecasts", before, Testing.stateOf(x));
                if (minute > 0) {
                    t.due("the changes at minute " + minute, y.undo(), Math.min(minute, 6) - 1);
                }
                x.pass(1);
            }
        });
        all.test(0, "they may go beyond minute 2000)", t -> {
            PenOffice x = Boundaries.plain("letter a 30 999 9 0;");
            Testing.passMany(x, 1998);
            x.addLetter(1, 30, 2, 999, 0);
            t.due("minutesToFinish", x.minutesToFinish(), 32);
            t.due("minutesToFinishLetter", x.minutesToFinishLetter(1), 32);
            t.due("letterWrittenIn(31)", x.letterWrittenIn(31), 1);
            t.due("letterWrittenIn(32)", x.letterWrittenIn(32), -1);
            x.addLetter(0, 2, 2, 999, 0);
            t.due("lateWith", x.lateWith(0), 3);
            t.due("waitingWith", x.waitingWith(0) - x.waitingTime(0), 30);
            x.pass(2);
            t.due("at minute 2000", x.minute() + " " + x.minutesToFinish() + " " + x.bestPolicy(), "2000 32 1");
        });
    }
}
