/** Promises 1 to 19: a test for each sentence that names a boundary. */
final class BoundariesOf01to19 {
    private BoundariesOf01to19() {
    }

    static void addTo(Sentences all) {
        newObject(all);
        append(all);
        truncate(all);
        load(all);
        errorCode(all);
        errorPosition(all);
        counts(all);
        holder(all);
        letters(all);
        ink(all);
        refillAndHandOver(all);
        nameByte(all);
        findClerk(all);
        all.withoutBoundary(7, "Returns the number of clerks");
        all.withoutBoundary(8, "Returns the number of letters");
        all.withoutBoundary(9, "Returns the current minute");
        all.withoutBoundary(10, "Returns the policy");
        all.withoutBoundary(11, "Returns the holder");
        all.withoutBoundary(12, "Returns the current letter");
        all.withoutBoundary(13, "Returns the last letter");
        all.withoutBoundary(14, "Returns the run");
        all.withoutBoundary(15, "Returns the ink");
        all.withoutBoundary(16, "Returns the rest of the refill");
        all.withoutBoundary(17, "Returns the rest of the hand-over");
        all.withoutBoundary(18, "Returns a letter of the name of a clerk");
        all.withoutBoundary(19, "Finds a clerk by its name");
    }

    private static void newObject(Sentences all) {
        String text = "office 0 1 10 2 3 4 1;clerk ann;clerk bob;letter ann 5 0 9 2;letter bob 2 1 6 5;letter ann 3 2 20 1;letter bob 4 3 12 7;";
        all.test(1, "Creates the office of the setup text \"" + text + "\"", t -> {
            PenOffice x = new PenOffice();
            t.due("the state", Testing.stateOf(x), "2 4 0 0 -1 -1 -1 0 10 0 0 0 0 0 0 0 20 | ann | bob"
                + " | 0 5 0 9 2 5 -1 0 | 1 2 1 6 5 2 -1 0 | 0 3 2 20 1 3 -1 0 | 1 4 3 12 7 4 -1 0");
            for (int policy = 0; policy < 5; policy++) {
                PenOffice made = new PenOffice();
                PenOffice loaded = Testing.office(text);
                made.setPolicy(policy);
                loaded.setPolicy(policy);
                for (int passed = 0; passed < 5; passed++) {
                    made.pass(5);
                    loaded.pass(5);
                    t.due("with policy " + policy, Testing.stateOf(made), Testing.stateOf(loaded));
                }
            }
        });
        all.test(1, "The current minute is 0, the input buffer is empty and nothing is saved", t -> {
            PenOffice x = new PenOffice();
            t.due("the minute", x.minute(), 0);
            t.refused("a byte of the buffer", Testing.ARGUMENT, () -> x.truncate(1));
            t.refused("slot 0", Testing.STATE, () -> x.restore(0));
            t.refused("slot 1", Testing.STATE, () -> x.restore(1));
            t.refused("a change", Testing.STATE, x::undo);
            t.due("the first append", x.append(0, 0, 0, 0, 0), 20);
            PenOffice other = new PenOffice();
            t.refused("a second object has a buffer of its own", Testing.ARGUMENT, () -> other.truncate(1));
        });
    }

    /** Twenty spaces but for one byte. */
    private static int[] spacesBut(int place, int sign) {
        int[] fours = {0x20202020, 0x20202020, 0x20202020, 0x20202020, 0x20202020};
        int shift = 24 - place % 4 * 8;
        fours[place / 4] = fours[place / 4] & ~(255 << shift) | sign << shift;
        return fours;
    }

    private static PenOffice appended(int[] fours) {
        PenOffice x = new PenOffice();
        x.append(fours[0], fours[1], fours[2], fours[3], fours[4]);
        return x;
    }

    private static void append(Sentences all) {
        all.test(2, "Appends 20 bytes to the input buffer: the four bytes of each argument, the most significant byte first", t -> {
            PenOffice x = Testing.office("office 0 0 99 0 2 5 0;clerk zazyxw;clerk b;");
            x.append(0x7a617a79, 0x7877ffff, -1, Integer.MIN_VALUE, Integer.MAX_VALUE);
            x.truncate(6);
            t.due("a name of six bytes", x.findClerk(), 0);
            for (int place = 0; place < 20; place++) {
                for (int sign : new int[] {0, 127, 128, 255}) {
                    PenOffice y = appended(spacesBut(place, sign));
                    t.refused("byte " + sign + " at " + place, Testing.ARGUMENT, y::runScript);
                    t.due("the place of byte " + sign, y.errorPosition(), place);
                }
            }
        });
        String[] names = {"a: bytes 1 to 4", "b: bytes 5 to 8", "c: bytes 9 to 12", "d: bytes 13 to 16", "e: bytes 17 to 20"};
        for (int i = 0; i < 5; i++) {
            int first = 4 * i;
            all.test(2, names[i], t -> {
                for (int place : new int[] {first, first + 3}) {
                    PenOffice x = appended(spacesBut(place, ';'));
                    t.refused("a semicolon", Testing.ARGUMENT, x::runScript);
                    t.due("its place", x.errorPosition(), place);
                }
                int[] fours = {0x20202020, 0x20202020, 0x20202020, 0x20202020, 0x20202020};
                fours[first / 4] = 0x3b202040;
                PenOffice y = appended(fours);
                y.truncate(first);
                t.due("nothing but spaces before it", y.runScript(), 0);
            });
        }
        all.test(2, "Returns the new length of the buffer", t -> {
            PenOffice x = new PenOffice();
            for (int length = 20; length <= 600; length += 20) {
                t.due("append", x.append(0, 0, 0, 0, 0), length);
            }
            x.truncate(1);
            t.due("append behind 1 byte", x.append(0, 0, 0, 0, 0), 21);
            x.truncate(0);
            t.due("append to an empty buffer", x.append(0, 0, 0, 0, 0), 20);
        });
        all.test(2, "Throws IllegalStateException if the new length would exceed 600", t -> {
            PenOffice x = new PenOffice();
            Testing.type(x, "bob" + " ".repeat(597));
            for (int length = 600; length > 580; length--) {
                x.truncate(length);
                t.refused("append behind " + length + " bytes", Testing.STATE, () -> x.append(0, 0, 0, 0, 0));
                t.due("the length stays", x.truncate(length), length);
            }
            x.truncate(580);
            t.due("append behind 580 bytes", x.append(0, 0, 0, 0, 0), 600);
            t.due("the first bytes stay", x.truncate(3) + " " + x.findClerk(), "3 1");
        });
    }

    private static void truncate(Sentences all) {
        all.test(3, "Truncates the input buffer", t -> {
            PenOffice x = new PenOffice();
            Testing.type(x, "bobby");
            x.truncate(3);
            t.due("the first bytes stay", x.findClerk(), 1);
            x.truncate(0);
            Testing.type(x, "ann");
            t.due("the first bytes are others", x.findClerk(), 0);
        });
        all.test(3, "length: new length of the buffer, 0 to its current length", t -> {
            PenOffice x = new PenOffice();
            t.due("0 of 0", x.truncate(0), 0);
            Testing.type(x, " ".repeat(600));
            t.due("600 of 600", x.truncate(600), 600);
            t.due("599 of 600", x.truncate(599), 599);
            t.due("0 of 599", x.truncate(0), 0);
        });
        all.test(3, "Returns the new length", t -> {
            PenOffice x = new PenOffice();
            Testing.type(x, " ".repeat(600));
            for (int length : new int[] {600, 300, 1, 1, 0, 0}) {
                t.due("truncate", x.truncate(length), length);
            }
        });
        all.test(3, "Throws IllegalArgumentException if length is out of range", t -> {
            PenOffice x = new PenOffice();
            for (int length : Boundaries.outside(0, 0)) {
                t.refused("truncate(" + length + ") of nothing", Testing.ARGUMENT, () -> x.truncate(length));
            }
            Testing.type(x, " ".repeat(600));
            for (int length : Boundaries.outside(0, 600)) {
                t.refused("truncate(" + length + ") of 600 bytes", Testing.ARGUMENT, () -> x.truncate(length));
            }
            x.truncate(20);
            t.refused("truncate(21) of 20 bytes", Testing.ARGUMENT, () -> x.truncate(21));
            t.due("the length stays", x.truncate(20), 20);
        });
    }

    private static void load(Sentences all) {
        all.test(4, "Parses the input buffer as a setup text and empties the buffer, also if the text has an error", t -> {
            PenOffice x = new PenOffice();
            Testing.type(x, Boundaries.PLAIN + " ".repeat(600 - Boundaries.PLAIN.length()));
            t.due("a full buffer", x.load(), 0);
            t.refused("a byte that is left", Testing.ARGUMENT, () -> x.truncate(1));
            Testing.type(x, "office" + " ".repeat(594));
            t.refused("a full buffer with an error", Testing.ARGUMENT, x::load);
            t.refused("a byte that is left behind an error", Testing.ARGUMENT, () -> x.truncate(1));
            t.refused("an empty buffer", Testing.ARGUMENT, x::load);
            Testing.type(x, "pass 1;");
            t.refused("a script", Testing.ARGUMENT, x::load);
            t.due("the next append", x.append(0, 0, 0, 0, 0), 20);
        });
        all.test(4, "A valid setup replaces the whole state, discards the saved states, and clears the undo history", t -> {
            PenOffice x = Boundaries.withSettings("4 2 3 4 2 3 1", "letter a 9 0 9 0;letter b 9 1 5 3;letter a 4 2 9 9;");
            for (int passed = 0; passed < 20; passed++) {
                x.pass(1);
            }
            x.save(0);
            x.save(1);
            x.minutesToFinish();
            Testing.type(x, Boundaries.PLAIN + "letter b 3 0 5 1;");
            x.load();
            t.due("the state", Testing.stateOf(x), "2 1 0 0 -1 -1 -1 0 99 0 0 0 0 0 0 0 3 | a | b | 1 3 0 5 1 3 -1 0");
            t.refused("a change", Testing.STATE, x::undo);
            t.refused("slot 0", Testing.STATE, () -> x.restore(0));
            t.refused("slot 1", Testing.STATE, () -> x.restore(1));
            // A forecast may end in any minute: nothing of it is left in the next office.
            for (int minutes = 0; minutes < 30; minutes++) {
                PenOffice y = Boundaries.withSettings("4 2 3 4 2 3 1", "letter a 3 2 9 0;letter b 2 3 5 3;letter a 4 2 9 9;");
                y.letterWrittenIn(minutes);
                Testing.type(y, Boundaries.PLAIN + "letter b 3 0 5 1;");
                y.load();
                t.due("after a forecast of " + minutes, Testing.stateOf(y), "2 1 0 0 -1 -1 -1 0 99 0 0 0 0 0 0 0 3 | a | b | 1 3 0 5 1 3 -1 0");
            }
        });
        all.test(4, "Returns the number of letters", t -> {
            for (int letters = 0; letters <= 12; letters++) {
                Boundaries.rightSetup(t, Boundaries.PLAIN + "letter b 1 0 1 0;".repeat(letters), letters);
            }
        });
        all.test(4, "Throws IllegalArgumentException if the text has an error", t -> {
            Boundaries.wrongSetup(t, "|@", 1);
            Boundaries.wrongSetup(t, "office |5", 2);
            Boundaries.wrongSetup(t, "office 0 0 99 0 2 5 0;clerk |clerkss", 3);
            Boundaries.wrongSetup(t, Boundaries.SIX_CLERKS + "|clerk", 4);
            Boundaries.wrongSetup(t, Boundaries.PLAIN + "letter a 1 0 1 0|", 1);
        });
        all.test(4, "in this case only the buffer, the error code and the error position change", t -> {
            String[] texts = {"", "@", "office 5", "office 4 5 99 9 9 20 5;clerk y;clerk z;letter y 1 1 1 1;letter z 1 1 1 1;clerk", Boundaries.SIX_CLERKS + "clerk g;"};
            for (String text : texts) {
                PenOffice x = new PenOffice();
                x.pass(2);
                x.save(1);
                x.pass(4);
                x.writeLetters();
                Testing.type(x, text);
                t.refusedAndKept(x, "load of " + text, Testing.ARGUMENT, x::load);
                t.due("the output", x.outputByte(0) + " " + x.outputByte(4), "97 48");
                t.due("the history", x.undo() + " " + x.minute(), "1 2");
                t.due("the saved state", x.restore(1), 2);
                t.refused("the other slot", Testing.STATE, () -> x.restore(0));
            }
        });
    }

    private static void errorCode(Sentences all) {
        all.test(5, "Returns the error code of the latest call of load() or runScript()", t -> {
            PenOffice x = new PenOffice();
            Testing.type(x, "office 9");
            t.refused("load", Testing.ARGUMENT, x::load);
            t.due("after load", x.errorCode(), 2);
            Testing.type(x, "letter zoe");
            t.refused("runScript", Testing.ARGUMENT, x::runScript);
            t.due("after runScript", x.errorCode(), 3);
            t.refused("an empty setup", Testing.ARGUMENT, x::load);
            t.due("after an empty setup", x.errorCode(), 1);
            x.pass(1);
            x.undo();
            Testing.type(x, "@");
            t.refused("findClerk", Testing.ELEMENT, x::findClerk);
            t.due("after other calls", x.errorCode(), 1);
        });
        all.test(5, "Returns 1 to 4", t -> {
            String[] setups = {"", "office 9", "office 0 0 99 0 2 5 0;clerk a;clerk a", Boundaries.SIX_CLERKS + "clerk"};
            for (int code = 1; code <= 4; code++) {
                PenOffice x = new PenOffice();
                Testing.type(x, setups[code - 1]);
                t.refused("load of " + setups[code - 1], Testing.ARGUMENT, x::load);
                t.due("its code", x.errorCode(), code);
            }
        });
        all.test(5, "0 if that text had no error or there was no such call", t -> {
            PenOffice x = new PenOffice();
            t.due("before a call", x.errorCode(), 0);
            Testing.type(x, "@");
            t.due("before a call, with a text", x.errorCode(), 0);
            t.refused("a wrong text", Testing.ARGUMENT, x::runScript);
            x.runScript();
            t.due("after an empty script", x.errorCode(), 0);
            t.refused("an empty setup", Testing.ARGUMENT, x::load);
            Testing.type(x, Boundaries.PLAIN);
            x.load();
            t.due("after a setup", x.errorCode(), 0);
            t.refused("an empty setup", Testing.ARGUMENT, x::load);
            Testing.type(x, "pass 999;");
            x.runScript();
            t.due("after a script that stopped", x.errorCode(), 0);
        });
    }

    private static void errorPosition(Sentences all) {
        all.test(6, "Returns the error position of the latest call of load() or runScript()", t -> {
            PenOffice x = new PenOffice();
            Testing.type(x, "office 9");
            t.refused("load", Testing.ARGUMENT, x::load);
            t.due("after load", x.errorPosition(), 7);
            Testing.type(x, " letter zoe");
            t.refused("runScript", Testing.ARGUMENT, x::runScript);
            t.due("after runScript", x.errorPosition(), 8);
            t.refused("an empty setup", Testing.ARGUMENT, x::load);
            t.due("after an empty setup", x.errorPosition(), 0);
        });
        all.test(6, "Returns the position in the text", t -> {
            Boundaries.wrongSetup(t, "|", 1);
            Boundaries.wrongSetup(t, "|@", 1);
            Boundaries.wrongSetup(t, "office" + " ".repeat(593) + "|@", 1);
            Boundaries.wrongSetup(t, "office" + " ".repeat(594) + "|", 1);
            Boundaries.wrongScript(t, " ".repeat(256) + "|@", 1);
        });
        all.test(6, "NONE if that text had no error or there was no such call", t -> {
            PenOffice x = new PenOffice();
            t.due("before a call", x.errorPosition(), -1);
            t.refused("an empty setup", Testing.ARGUMENT, x::load);
            x.runScript();
            t.due("after an empty script", x.errorPosition(), -1);
            t.refused("an empty setup", Testing.ARGUMENT, x::load);
            Testing.type(x, Boundaries.PLAIN);
            x.load();
            t.due("after a setup", x.errorPosition(), -1);
            t.refused("an empty setup", Testing.ARGUMENT, x::load);
            Testing.type(x, "pass 999;");
            x.runScript();
            t.due("after a script that stopped", x.errorPosition(), -1);
        });
    }

    private static void counts(Sentences all) {
        all.test(7, "Returns 2 to 6", t -> {
            String text = "office 0 0 99 0 2 5 0;clerk a;";
            for (int clerks = 2; clerks <= 6; clerks++) {
                text += "clerk " + (char) ('a' + clerks) + ";";
                t.due("clerks", Testing.office(text).clerkCount(), clerks);
            }
        });
        all.test(8, "Returns 0 to 12", t -> {
            PenOffice x = Boundaries.plain("");
            for (int letters = 0; letters < 12; letters++) {
                t.due("letters", x.letterCount(), letters);
                x.addLetter(0, 1, 0, 1, 0);
            }
            t.due("letters", x.letterCount(), 12);
            t.refused("a 13th letter", Testing.STATE, () -> x.addLetter(0, 1, 0, 1, 0));
            t.due("letters", x.letterCount(), 12);
            x.pass(30);
            t.due("finished letters", x.letterCount(), 12);
        });
        all.test(9, "Returns 0 to 2000", t -> {
            PenOffice x = Boundaries.plain("");
            t.due("at first", x.minute(), 0);
            Testing.passMany(x, 1999);
            t.due("one minute before the end", x.minute(), 1999);
            x.pass(1);
            t.due("at the end", x.minute(), 2000);
            x.minutesToFinish();
            x.waitingWith(0);
            t.due("after forecasts", x.minute(), 2000);
        });
        all.test(10, "Returns 0 to 4", t -> {
            for (int policy = 0; policy <= 4; policy++) {
                t.due("of a setup", Boundaries.withSettings(policy + " 0 99 0 2 5 0", "").policy(), policy);
                PenOffice x = new PenOffice();
                x.setPolicy(policy);
                t.due("of setPolicy", x.policy(), policy);
            }
            Boundaries.wrongSetup(t, "office |5 0 99 0 2 5 0;clerk a;clerk b;", 2);
        });
    }

    private static void holder(Sentences all) {
        all.test(11, "Returns the number of the clerk", t -> {
            PenOffice x = Testing.office(Boundaries.SIX_CLERKS + "letter f 1 0 9 0;letter a 1 0 9 0;");
            x.pass(1);
            t.due("the last clerk", x.holder(), 5);
            x.pass(1);
            t.due("the first clerk", x.holder(), 0);
            x.pass(9);
            t.due("when all letters are finished", x.holder(), 0);
        });
        all.test(11, "NONE if no clerk has the pen", t -> {
            PenOffice x = Boundaries.withSettings("0 1 99 0 2 5 0", "letter b 1 2 9 0;");
            x.pass(2);
            t.due("before the first letter", x.holder(), -1);
            x.pass(1);
            t.due("in the hand-over", x.holder(), 1);
        });
    }

    private static void letters(Sentences all) {
        all.test(12, "Returns the number of the letter", t -> {
            PenOffice x = Boundaries.withSettings("2 0 99 0 2 5 0", "letter a 2 0 9 0;" + "letter a 2 0 99 0;".repeat(10) + "letter b 2 0 1 0;");
            x.pass(1);
            t.due("letter 11", x.currentLetter(), 11);
            x.pass(2);
            t.due("letter 0", x.currentLetter(), 0);
        });
        all.test(12, "NONE if there is none", t -> {
            PenOffice x = Boundaries.plain("letter a 1 1 9 0;letter a 2 1 9 0;");
            x.pass(1);
            t.due("before the first letter", x.currentLetter(), -1);
            x.pass(1);
            t.due("at its end", x.currentLetter(), -1);
            x.pass(1);
            x.discard(1);
            t.due("when it was discarded", x.currentLetter(), -1);
        });
        all.test(13, "Returns the number of the letter that was written last", t -> {
            PenOffice x = Boundaries.withSettings("2 0 99 0 2 5 0", "letter a 1 0 9 0;" + "letter a 2 0 99 0;".repeat(10) + "letter b 1 0 1 0;");
            x.pass(1);
            t.due("letter 11, finished", x.lastLetter(), 11);
            x.discard(1);
            t.due("another letter was discarded", x.lastLetter(), 11);
            x.pass(1);
            t.due("letter 0, finished", x.lastLetter(), 0);
        });
        all.test(13, "NONE if there is none", t -> {
            PenOffice x = Boundaries.plain("letter a 1 1 9 0;");
            x.pass(1);
            t.due("before the first letter", x.lastLetter(), -1);
            x.discard(0);
            x.pass(9);
            t.due("when it was discarded", x.lastLetter(), -1);
        });
        all.test(14, "Returns the run of the last letter in minutes", t -> {
            PenOffice x = Boundaries.plain("letter a 30 0 9 0;letter b 1 0 9 0;");
            for (int run = 1; run <= 30; run++) {
                x.pass(1);
                t.due("run", x.runLength(), run);
            }
            x.pass(1);
            t.due("the next letter", x.runLength(), 1);
        });
        all.test(14, "0 if there is no last letter", t -> {
            PenOffice x = Boundaries.withSettings("0 1 99 0 2 5 0", "letter b 1 1 9 0;");
            t.due("at first", x.runLength(), 0);
            x.pass(2);
            t.due("after an idle minute and a hand-over", x.runLength(), 0);
            x.pass(1);
            t.due("after a written minute", x.runLength(), 1);
        });
    }

    private static void ink(Sentences all) {
        all.test(15, "Returns the number of minutes that can be written until the next refill", t -> {
            PenOffice x = Boundaries.withSettings("0 0 99 2 2 5 0", "letter b 30 0 9 0;".repeat(4));
            for (int ink = 99; ink > 0; ink--) {
                t.due("ink", x.ink(), ink);
                x.pass(1);
            }
            x.pass(2);
            t.due("after a refill", x.ink(), 99);
            PenOffice y = Boundaries.withSettings("0 1 1 0 2 5 0", "letter b 1 1 9 0;");
            y.pass(2);
            t.due("idle minutes and hand-overs need no ink", y.ink(), 1);
            y.pass(1);
            t.due("a refill without a time", y.ink(), 1);
        });
        all.test(15, "0 during a refill", t -> {
            PenOffice x = Boundaries.withSettings("0 0 1 9 2 5 0", "letter b 1 0 9 0;");
            x.pass(1);
            for (int minute = 0; minute < 9; minute++) {
                t.due("in minute " + minute + " of the refill", x.ink(), 0);
                x.pass(1);
            }
            t.due("after it", x.ink(), 1);
        });
    }

    private static void refillAndHandOver(Sentences all) {
        all.test(16, "Returns the number of minutes that still belong to the refill", t -> {
            PenOffice x = Boundaries.withSettings("0 0 1 9 2 5 0", "letter b 2 0 9 0;");
            x.pass(1);
            for (int left = 9; left > 0; left--) {
                t.due("the rest", x.refillLeft(), left);
                x.pass(1);
            }
            t.due("after it", x.refillLeft(), 0);
            x.pass(1);
            t.due("the next refill", x.refillLeft(), 9);
        });
        all.test(16, "0 without a refill", t -> {
            PenOffice x = Boundaries.withSettings("0 1 1 1 2 5 0", "letter b 1 1 9 0;");
            t.due("at first", x.refillLeft(), 0);
            x.pass(1);
            t.due("after an idle minute", x.refillLeft(), 0);
            x.pass(1);
            t.due("after a hand-over", x.refillLeft(), 0);
            x.pass(1);
            t.due("before a refill of 1 minute", x.refillLeft(), 1);
            x.pass(1);
            t.due("after it", x.refillLeft(), 0);
            PenOffice y = Boundaries.withSettings("0 0 1 0 2 5 0", "letter b 1 0 9 0;");
            y.pass(1);
            t.due("with a refill time of 0", y.refillLeft(), 0);
        });
        all.test(17, "Returns the number of minutes that still belong to the hand-over", t -> {
            PenOffice x = Boundaries.withSettings("0 5 99 9 2 5 0", "letter b 2 0 9 0;");
            for (int left = 4; left >= 0; left--) {
                x.pass(1);
                t.due("the rest", x.handOverLeft(), left);
            }
            t.due("no minute was written", x.writtenMinutes(), 0);
        });
        all.test(17, "0 without a hand-over", t -> {
            PenOffice x = Boundaries.withSettings("0 1 1 9 2 5 0", "letter b 2 1 9 0;");
            t.due("at first", x.handOverLeft(), 0);
            x.pass(1);
            t.due("after an idle minute", x.handOverLeft(), 0);
            x.pass(1);
            t.due("after a hand-over of 1 minute", x.handOverLeft(), 0);
            x.pass(2);
            t.due("in a refill", x.handOverLeft(), 0);
            PenOffice y = Boundaries.plain("letter b 2 0 9 0;");
            y.pass(1);
            t.due("with a hand-over time of 0", y.handOverLeft() + " " + y.handOvers(), "0 1");
        });
    }

    private static void nameByte(Sentences all) {
        String text = "office 0 0 99 0 2 5 0;clerk abcxyz;clerk b;clerk c;clerk d;clerk e;clerk zyxcba;";
        all.test(18, "clerk: number of a clerk", t -> {
            PenOffice x = Testing.office(text);
            t.due("clerk 0", x.nameByte(0, 0), 97);
            t.due("clerk 1", x.nameByte(1, 0), 98);
            t.due("clerk 5", x.nameByte(5, 0), 122);
        });
        all.test(18, "index: position in the name, from 0", t -> {
            PenOffice x = Testing.office(text);
            t.due("the first letter", x.nameByte(0, 0), 97);
            t.due("the second letter", x.nameByte(0, 1), 98);
            t.due("the last letter", x.nameByte(0, 5), 122);
        });
        all.test(18, "Returns the letter as a byte", t -> {
            PenOffice x = Testing.office(text);
            t.due("the least byte", x.nameByte(5, 5), 97);
            t.due("the greatest byte", x.nameByte(5, 0), 122);
        });
        all.test(18, "Throws IndexOutOfBoundsException if the clerk does not exist, or its name has no such letter", t -> {
            PenOffice x = Testing.office(text);
            for (int clerk : Boundaries.outside(0, 5)) {
                t.refused("clerk " + clerk, Testing.INDEX, () -> x.nameByte(clerk, 0));
            }
            for (int index : Boundaries.outside(0, 5)) {
                t.refused("letter " + index, Testing.INDEX, () -> x.nameByte(0, index));
            }
            t.refused("the second letter of one", Testing.INDEX, () -> x.nameByte(1, 1));
            t.refused("a third clerk of two", Testing.INDEX, () -> new PenOffice().nameByte(2, 0));
            t.refused("a fourth letter of three", Testing.INDEX, () -> new PenOffice().nameByte(0, 3));
        });
    }

    private static PenOffice typed(String setup, String text) {
        PenOffice x = Testing.office(setup);
        Testing.type(x, text);
        return x;
    }

    private static void findClerk(Sentences all) {
        String text = Boundaries.SIX_CLERKS.replace("clerk b", "clerk bobbob").replace("clerk f", "clerk bob");
        all.test(19, "Returns the number of the clerk whose name equals the whole input buffer, which stays unchanged", t -> {
            t.due("a name of one letter", typed(text, "a").findClerk(), 0);
            t.due("a name of six letters", typed(text, "bobbob").findClerk(), 1);
            PenOffice x = typed(text, "bob");
            t.due("the last clerk", x.findClerk(), 5);
            t.due("once more", x.findClerk(), 5);
            t.due("the length stays", x.truncate(3), 3);
            t.refused("no byte more", Testing.ARGUMENT, () -> x.truncate(4));
        });
        all.test(19, "Throws NoSuchElementException if no clerk has this name", t -> {
            for (String wrong : new String[] {"", "g", "b", "bobb", "bobbobb", " a", "a ", "a;", "A", "aa", "bobbo", "bob".repeat(200), "" + (char) 225}) {
                PenOffice x = typed(text, wrong);
                t.refused("findClerk of " + wrong, Testing.ELEMENT, x::findClerk);
                t.due("the buffer stays", x.truncate(wrong.length()), wrong.length());
            }
            t.refused("the name of a clerk of an office before", Testing.ELEMENT, () -> typed(Boundaries.PLAIN, "ann").findClerk());
            t.refused("a third clerk, whom an office before had", Testing.ELEMENT, () -> {
                PenOffice x = Testing.office(text);
                Testing.type(x, Boundaries.PLAIN);
                x.load();
                Testing.type(x, "c");
                return x.findClerk();
            });
        });
    }
}
