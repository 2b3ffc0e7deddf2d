/** Promises 53 to 65: a test for each sentence that names a boundary. */
final class BoundariesOf53to65 {
    private BoundariesOf53to65() {
    }

    static void addTo(Sentences all) {
        addLetterRanges(all);
        addLetterRefused(all);
        pass(all);
        setPolicy(all);
        setDeadline(all);
        setPriority(all);
        extend(all);
        extendRefused(all);
        discard(all);
        runScript(all);
        undo(all);
        save(all);
        restore(all);
        writeLetters(all);
        outputByte(all);
        all.withoutBoundary(54, "Lets minutes pass");
        all.withoutBoundary(55, "Sets the policy");
        all.withoutBoundary(56, "Sets the deadline of a letter");
        all.withoutBoundary(57, "Sets the priority of a letter");
        all.withoutBoundary(65, "Returns a byte of the output text");
    }

    private static void addLetterRanges(Sentences all) {
        all.test(53, "Adds a letter behind the last letter", t -> {
            PenOffice x = Boundaries.plain("");
            x.addLetter(1, 7, 8, 9, 3);
            t.due("the first letter", Testing.stateOf(x), "2 1 0 0 -1 -1 -1 0 99 0 0 0 0 0 0 0 15 | a | b | 1 7 8 9 3 7 -1 0");
            x.addLetter(0, 1, 0, 1, 0);
            t.due("the second letter", x.letterCount() + " " + x.length(0) + " " + x.length(1), "2 7 1");
            PenOffice y = Boundaries.plain("letter a 3 0 9 0;".repeat(11));
            y.pass(3);
            y.addLetter(1, 30, 0, 1, 0);
            t.due("the twelfth letter, behind letters that are finished or not", y.letterCount() + " " + y.length(11) + " " + y.clerkOf(11) + " "
                + y.finishMinute(11) + " " + y.waitingTime(11), "12 30 1 -1 0");
        });
        all.test(53, "clerk: number of a clerk", t -> {
            PenOffice x = Testing.office(Boundaries.SIX_CLERKS);
            x.addLetter(0, 1, 0, 1, 0);
            x.addLetter(5, 1, 0, 1, 0);
            t.due("the first and the last clerk", x.clerkOf(0) + " " + x.clerkOf(1), "0 5");
        });
        all.test(53, "length: 1 to 30", t -> {
            PenOffice x = Boundaries.plain("");
            x.addLetter(0, 1, 0, 1, 0);
            x.addLetter(0, 30, 0, 1, 0);
            t.due("the lengths", x.length(0) + " " + x.length(1), "1 30");
            t.refusedAndKept(x, "0", Testing.ARGUMENT, () -> x.addLetter(0, 0, 0, 1, 0));
            t.refusedAndKept(x, "31", Testing.ARGUMENT, () -> x.addLetter(0, 31, 0, 1, 0));
        });
        all.test(53, "delay: number of minutes after the current minute at which the letter arrives, 0 to 999", t -> {
            PenOffice x = Boundaries.plain("");
            x.pass(5);
            x.addLetter(0, 1, 0, 1, 0);
            x.addLetter(0, 1, 999, 1, 0);
            x.addLetter(0, 1, 1, 1, 0);
            t.due("the arrivals", x.arrival(0) + " " + x.arrival(1) + " " + x.arrival(2), "5 1004 6");
            t.due("ready", x.isReady(0) + " " + x.isReady(2), "true false");
            t.refusedAndKept(x, "-1", Testing.ARGUMENT, () -> x.addLetter(0, 1, -1, 1, 0));
            t.refusedAndKept(x, "1000", Testing.ARGUMENT, () -> x.addLetter(0, 1, 1000, 1, 0));
        });
        all.test(53, "deadline: 1 to 999", t -> {
            PenOffice x = Boundaries.plain("");
            x.pass(5);
            x.addLetter(0, 1, 0, 1, 0);
            x.addLetter(0, 1, 0, 999, 0);
            t.due("the deadlines", x.deadline(0) + " " + x.deadline(1), "1 999");
            t.refusedAndKept(x, "0", Testing.ARGUMENT, () -> x.addLetter(0, 1, 0, 0, 0));
            t.refusedAndKept(x, "1000", Testing.ARGUMENT, () -> x.addLetter(0, 1, 0, 1000, 0));
        });
        all.test(53, "priority: 0 to 9", t -> {
            PenOffice x = Boundaries.plain("");
            x.addLetter(0, 1, 0, 1, 0);
            x.addLetter(0, 1, 0, 1, 9);
            t.due("the priorities", x.priority(0) + " " + x.priority(1), "0 9");
            t.refusedAndKept(x, "-1", Testing.ARGUMENT, () -> x.addLetter(0, 1, 0, 1, -1));
            t.refusedAndKept(x, "10", Testing.ARGUMENT, () -> x.addLetter(0, 1, 0, 1, 10));
        });
        all.test(53, "Returns the number of the letter", t -> {
            PenOffice x = Boundaries.plain("");
            for (int letter = 0; letter < 12; letter++) {
                t.due("letter", x.addLetter(letter % 2, 1, 0, 1, 0), letter);
            }
            x.undo();
            t.due("the number of a letter that was undone", x.addLetter(0, 2, 0, 1, 0), 11);
        });
    }

    private static void addLetterRefused(Sentences all) {
        all.test(53, "Throws IndexOutOfBoundsException if the clerk does not exist", t -> {
            PenOffice x = Testing.office(Boundaries.SIX_CLERKS);
            for (int clerk : Boundaries.outside(0, 5)) {
                t.refusedAndKept(x, "clerk " + clerk + " of six", Testing.INDEX, () -> x.addLetter(clerk, 1, 0, 1, 0));
            }
            PenOffice y = new PenOffice();
            t.refused("clerk 2 of two", Testing.INDEX, () -> y.addLetter(2, 1, 0, 1, 0));
            t.refused("undo", Testing.STATE, x::undo);
        });
        all.test(53, "Throws IllegalArgumentException if length, delay, deadline or priority is out of range", t -> {
            PenOffice x = new PenOffice();
            for (int i = 0; i < 4; i++) {
                int length = Boundaries.outside(1, 30)[i];
                int delay = Boundaries.outside(0, 999)[i];
                int deadline = Boundaries.outside(1, 999)[i];
                int priority = Boundaries.outside(0, 9)[i];
                t.refused("length " + length, Testing.ARGUMENT, () -> x.addLetter(0, length, 0, 1, 0));
                t.refused("delay " + delay, Testing.ARGUMENT, () -> x.addLetter(0, 1, delay, 1, 0));
                t.refused("deadline " + deadline, Testing.ARGUMENT, () -> x.addLetter(0, 1, 0, deadline, 0));
                t.refused("priority " + priority, Testing.ARGUMENT, () -> x.addLetter(0, 1, 0, 1, priority));
            }
            t.due("letters", x.letterCount(), 4);
            t.refused("undo", Testing.STATE, x::undo);
            PenOffice y = Boundaries.plain("");
            Testing.passMany(y, 2000);
            t.refused("a delay that wraps around", Testing.ARGUMENT, () -> y.addLetter(0, 1, Integer.MAX_VALUE, 1, 0));
            t.refused("a delay back to minute 0", Testing.ARGUMENT, () -> y.addLetter(0, 1, -2000, 1, 0));
        });
        all.test(53, "Throws IllegalStateException if there are 12 letters, or the arrival minute would exceed 2000", t -> {
            PenOffice x = Boundaries.plain("letter a 1 0 9 0;".repeat(12));
            t.refusedAndKept(x, "a 13th letter", Testing.STATE, () -> x.addLetter(0, 1, 0, 1, 0));
            x.pass(12);
            t.refusedAndKept(x, "a 13th letter, when all are finished", Testing.STATE, () -> x.addLetter(0, 1, 0, 1, 0));
            t.due("the changes", x.undo(), 0);
            PenOffice y = Boundaries.plain("");
            Testing.passMany(y, 1001);
            t.due("arrival 2000", y.addLetter(0, 1, 999, 1, 0), 0);
            y.pass(1);
            t.refusedAndKept(y, "arrival 2001", Testing.STATE, () -> y.addLetter(0, 1, 999, 1, 0));
            t.due("arrival 2000", y.addLetter(0, 1, 998, 1, 0), 1);
            Testing.passMany(y, 998);
            t.refusedAndKept(y, "arrival 2001 at minute 2000", Testing.STATE, () -> y.addLetter(0, 1, 1, 1, 0));
            t.due("arrival 2000 at minute 2000", y.addLetter(0, 1, 0, 1, 0), 2);
        });
    }

    private static void pass(Sentences all) {
        all.test(54, "minutes: 1 to 300", t -> {
            PenOffice x = Boundaries.plain("");
            x.pass(1);
            t.due("1", x.minute(), 1);
            x.pass(300);
            t.due("300", x.minute(), 301);
            t.refusedAndKept(x, "0", Testing.ARGUMENT, () -> x.pass(0));
            t.refusedAndKept(x, "301", Testing.ARGUMENT, () -> x.pass(301));
        });
        all.test(54, "Returns the number of letters that were finished in these minutes", t -> {
            PenOffice x = Boundaries.plain("letter a 1 0 9 0;".repeat(11) + "letter b 2 0 9 0;");
            t.due("one", x.pass(1), 1);
            t.due("ten", x.pass(10), 10);
            t.due("none, with a minute left", x.pass(1), 0);
            t.due("the last", x.pass(1), 1);
            t.due("none", x.pass(300), 0);
            PenOffice y = Boundaries.plain("letter a 1 0 9 0;".repeat(12));
            t.due("all twelve", y.pass(300), 12);
            PenOffice z = Boundaries.plain("letter a 1 0 9 0;letter b 9 0 9 0;");
            z.discard(1);
            t.due("a discarded letter does not count", z.pass(300), 1);
            t.due("without letters", Boundaries.plain("").pass(300), 0);
        });
        all.test(54, "Throws IllegalArgumentException if minutes is out of range", t -> {
            PenOffice x = new PenOffice();
            for (int minutes : Boundaries.outside(1, 300)) {
                t.refusedAndKept(x, "pass(" + minutes + ")", Testing.ARGUMENT, () -> x.pass(minutes));
            }
            t.refused("undo", Testing.STATE, x::undo);
            PenOffice y = Boundaries.plain("");
            Testing.passMany(y, 2000);
            for (int minutes : Boundaries.outside(1, 300)) {
                t.refused("pass(" + minutes + ") at minute 2000", Testing.ARGUMENT, () -> y.pass(minutes));
            }
        });
        all.test(54, "Throws IllegalStateException if the current minute would exceed 2000", t -> {
            PenOffice x = Boundaries.plain("letter a 30 999 9 0;");
            Testing.passMany(x, 1701);
            t.refusedAndKept(x, "pass(300) at minute 1701", Testing.STATE, () -> x.pass(300));
            x.pass(298);
            t.refusedAndKept(x, "pass(2) at minute 1999", Testing.STATE, () -> x.pass(2));
            x.pass(1);
            t.refusedAndKept(x, "pass(1) at minute 2000", Testing.STATE, () -> x.pass(1));
            t.due("undo", x.undo() + " " + x.minute(), "5 1999");
            PenOffice y = Boundaries.plain("");
            Testing.passMany(y, 1700);
            y.pass(300);
            t.due("pass(300) at minute 1700", y.minute(), 2000);
        });
    }

    private static void setPolicy(Sentences all) {
        all.test(55, "policy: 0 to 4", t -> {
            PenOffice x = Boundaries.plain("");
            for (int policy = 0; policy <= 4; policy++) {
                x.setPolicy(policy);
                t.due("policy", x.policy(), policy);
            }
        });
        all.test(55, "Returns the previous policy", t -> {
            PenOffice x = Boundaries.withSettings("4 0 99 0 2 5 0", "");
            t.due("of the setup", x.setPolicy(0), 4);
            t.due("of setPolicy", x.setPolicy(0), 0);
            t.due("the same once more", x.setPolicy(4), 0);
            t.due("the greatest", x.setPolicy(1), 4);
            t.due("all are changes", x.undo(), 3);
        });
        all.test(55, "Throws IllegalArgumentException if policy is out of range", t -> {
            PenOffice x = new PenOffice();
            for (int policy : Boundaries.outside(0, 4)) {
                t.refusedAndKept(x, "setPolicy(" + policy + ")", Testing.ARGUMENT, () -> x.setPolicy(policy));
            }
            t.refused("undo", Testing.STATE, x::undo);
        });
    }

    private static PenOffice twelve() {
        return Boundaries.plain("letter a 1 0 5 3;" + "letter b 9 0 500 5;".repeat(10) + "letter a 9 999 7 8;");
    }

    private static void setDeadline(Sentences all) {
        all.test(56, "letter: number of a letter", t -> {
            PenOffice x = twelve();
            x.setDeadline(0, 11);
            x.setDeadline(11, 22);
            t.due("the first and the last letter", x.deadline(0) + " " + x.deadline(1) + " " + x.deadline(10) + " " + x.deadline(11), "11 500 500 22");
        });
        all.test(56, "deadline: 1 to 999", t -> {
            PenOffice x = twelve();
            x.setDeadline(0, 1);
            x.setDeadline(1, 999);
            t.due("the deadlines", x.deadline(0) + " " + x.deadline(1), "1 999");
            t.refusedAndKept(x, "0", Testing.ARGUMENT, () -> x.setDeadline(0, 0));
            t.refusedAndKept(x, "1000", Testing.ARGUMENT, () -> x.setDeadline(0, 1000));
        });
        all.test(56, "Returns the previous deadline", t -> {
            PenOffice x = twelve();
            t.due("of the setup", x.setDeadline(0, 999), 5);
            t.due("the greatest", x.setDeadline(0, 1), 999);
            t.due("the least", x.setDeadline(0, 1), 1);
            x.pass(1);
            t.due("of a finished letter", x.setDeadline(0, 2), 1);
            t.due("of a letter that has not arrived", x.setDeadline(11, 2), 7);
            t.due("all are changes", x.undo(), 5);
        });
        all.test(56, "Throws IndexOutOfBoundsException if the letter does not exist", t -> {
            PenOffice x = twelve();
            for (int letter : Boundaries.outside(0, 11)) {
                t.refused("letter " + letter + " of 12", Testing.INDEX, () -> x.setDeadline(letter, 1));
            }
            PenOffice y = new PenOffice();
            t.refusedAndKept(y, "letter 4 of 4", Testing.INDEX, () -> y.setDeadline(4, 1));
            t.refused("undo", Testing.STATE, y::undo);
        });
        all.test(56, "Throws IllegalArgumentException if deadline is out of range", t -> {
            PenOffice x = new PenOffice();
            for (int deadline : Boundaries.outside(1, 999)) {
                t.refusedAndKept(x, "deadline " + deadline, Testing.ARGUMENT, () -> x.setDeadline(0, deadline));
            }
            t.refused("undo", Testing.STATE, x::undo);
        });
    }

    private static void setPriority(Sentences all) {
        all.test(57, "letter: number of a letter", t -> {
            PenOffice x = twelve();
            x.setPriority(0, 1);
            x.setPriority(11, 2);
            t.due("the first and the last letter", x.priority(0) + " " + x.priority(1) + " " + x.priority(10) + " " + x.priority(11), "1 5 5 2");
        });
        all.test(57, "priority: 0 to 9", t -> {
            PenOffice x = twelve();
            x.setPriority(0, 0);
            x.setPriority(1, 9);
            t.due("the priorities", x.priority(0) + " " + x.priority(1), "0 9");
            t.refusedAndKept(x, "-1", Testing.ARGUMENT, () -> x.setPriority(0, -1));
            t.refusedAndKept(x, "10", Testing.ARGUMENT, () -> x.setPriority(0, 10));
        });
        all.test(57, "Returns the previous priority", t -> {
            PenOffice x = twelve();
            t.due("of the setup", x.setPriority(0, 9), 3);
            t.due("the greatest", x.setPriority(0, 0), 9);
            t.due("the least", x.setPriority(0, 0), 0);
            x.pass(1);
            t.due("of a finished letter", x.setPriority(0, 2), 0);
            t.due("of a letter that has not arrived", x.setPriority(11, 2), 8);
            t.due("all are changes", x.undo(), 5);
        });
        all.test(57, "Throws IndexOutOfBoundsException if the letter does not exist", t -> {
            PenOffice x = twelve();
            for (int letter : Boundaries.outside(0, 11)) {
                t.refused("letter " + letter + " of 12", Testing.INDEX, () -> x.setPriority(letter, 1));
            }
            PenOffice y = new PenOffice();
            t.refusedAndKept(y, "letter 4 of 4", Testing.INDEX, () -> y.setPriority(4, 1));
            t.refused("undo", Testing.STATE, y::undo);
        });
        all.test(57, "Throws IllegalArgumentException if priority is out of range", t -> {
            PenOffice x = new PenOffice();
            for (int priority : Boundaries.outside(0, 9)) {
                t.refusedAndKept(x, "priority " + priority, Testing.ARGUMENT, () -> x.setPriority(0, priority));
            }
            t.refused("undo", Testing.STATE, x::undo);
        });
    }

    private static void extend(Sentences all) {
        all.test(58, "Makes a letter longer: its length and its remaining time increase", t -> {
            PenOffice x = Boundaries.plain("letter a 10 0 9 0;letter b 1 999 9 0;");
            x.pass(9);
            x.extend(0, 20);
            t.due("a letter with a minute left", x.length(0) + " " + x.remaining(0) + " " + x.currentLetter() + " " + x.runLength(), "30 21 0 9");
            x.extend(1, 1);
            t.due("a letter that has not arrived", x.length(1) + " " + x.remaining(1), "2 2");
        });
        all.test(58, "letter: number of a letter", t -> {
            PenOffice x = twelve();
            x.extend(0, 1);
            x.extend(11, 2);
            t.due("the first and the last letter", x.length(0) + " " + x.length(1) + " " + x.length(10) + " " + x.length(11), "2 9 9 11");
        });
        all.test(58, "minutes: 1 to 29", t -> {
            PenOffice x = Boundaries.plain("letter a 1 0 9 0;letter a 1 0 9 0;");
            x.extend(0, 1);
            x.extend(1, 29);
            t.due("the lengths", x.length(0) + " " + x.length(1), "2 30");
            t.refusedAndKept(x, "0", Testing.ARGUMENT, () -> x.extend(0, 0));
            t.refusedAndKept(x, "30", Testing.ARGUMENT, () -> x.extend(0, 30));
        });
        all.test(58, "Returns the remaining time afterwards", t -> {
            PenOffice x = Boundaries.plain("letter a 10 0 9 0;letter a 1 0 9 0;");
            t.due("the greatest", x.extend(1, 29), 30);
            t.due("of a letter that was not written", x.extend(0, 1), 11);
            x.pass(10);
            t.due("of a letter with a minute left", x.extend(0, 19), 20);
            t.due("all are changes", x.undo(), 3);
        });
    }

    private static void extendRefused(Sentences all) {
        all.test(58, "Throws IndexOutOfBoundsException if the letter does not exist", t -> {
            PenOffice x = twelve();
            for (int letter : Boundaries.outside(0, 11)) {
                t.refused("letter " + letter + " of 12", Testing.INDEX, () -> x.extend(letter, 1));
            }
            PenOffice y = new PenOffice();
            t.refusedAndKept(y, "letter 4 of 4", Testing.INDEX, () -> y.extend(4, 1));
            t.refused("undo", Testing.STATE, y::undo);
        });
        all.test(58, "Throws IllegalArgumentException if minutes is out of range", t -> {
            PenOffice x = Boundaries.plain("letter a 1 0 9 0;letter a 30 0 9 0;");
            for (int minutes : Boundaries.outside(1, 29)) {
                t.refusedAndKept(x, "minutes " + minutes, Testing.ARGUMENT, () -> x.extend(0, minutes));
                t.refused("minutes " + minutes + " of a letter of 30", Testing.ARGUMENT, () -> x.extend(1, minutes));
            }
            t.refused("undo", Testing.STATE, x::undo);
        });
        all.test(58, "Throws IllegalStateException if the letter is finished, or its length would exceed 30", t -> {
            PenOffice x = Boundaries.plain("letter a 1 0 9 0;letter a 2 0 9 0;letter a 30 0 9 0;letter b 9 0 9 0;");
            t.refusedAndKept(x, "a letter of 30", Testing.STATE, () -> x.extend(2, 1));
            t.refusedAndKept(x, "a letter of 2 to 31", Testing.STATE, () -> x.extend(1, 29));
            t.due("a letter of 2 to 30", x.extend(1, 28), 30);
            x.undo();
            x.pass(2);
            t.refusedAndKept(x, "a finished letter", Testing.STATE, () -> x.extend(0, 1));
            t.refusedAndKept(x, "a letter of 2 with a minute left to 31", Testing.STATE, () -> x.extend(1, 29));
            t.due("to 30", x.extend(1, 28), 29);
            x.discard(3);
            t.refusedAndKept(x, "a discarded letter", Testing.STATE, () -> x.extend(3, 1));
            t.due("the changes", x.undo(), 2);
        });
    }

    private static void discard(Sentences all) {
        all.test(59, "Discards a letter that is not finished: its remaining time becomes 0, and the current minute is its finish minute", t -> {
            PenOffice x = Boundaries.plain("letter a 30 0 9 0;letter a 30 0 9 0;");
            x.discard(1);
            t.due("at minute 0", x.remaining(1) + " " + x.finishMinute(1) + " " + x.length(1) + " " + x.isReady(1), "0 0 30 false");
            x.pass(29);
            x.discard(0);
            t.due("with a minute left", x.remaining(0) + " " + x.finishMinute(0) + " " + x.finishedCount(), "0 29 2");
            Testing.passMany(x, 1971);
            x.addLetter(0, 30, 0, 999, 0);
            x.discard(2);
            t.due("at minute 2000", x.remaining(2) + " " + x.finishMinute(2), "0 2000");
        });
        all.test(59, "If it is the current letter, there is no current letter any more", t -> {
            PenOffice x = Boundaries.withSettings("0 0 99 0 2 5 3", "letter a 9 0 9 0;letter a 9 0 9 0;letter a 9 0 9 0;");
            x.pass(1);
            x.discard(1);
            t.due("another letter", x.currentLetter(), 0);
            x.discard(0);
            t.due("the current letter", x.currentLetter() + " " + x.lastLetter() + " " + x.runLength(), "-1 0 1");
            x.pass(1);
            t.due("the next letter makes no blot", x.currentLetter() + " " + x.blots() + " " + x.remaining(0), "2 0 0");
        });
        all.test(59, "letter: number of a letter", t -> {
            PenOffice x = Boundaries.plain("letter a 5 0 9 0;".repeat(11) + "letter b 7 0 9 0;");
            t.due("the last letter", x.discard(11), 7);
            t.due("the first letter", x.discard(0), 5);
            t.due("the letters", x.remaining(0) + " " + x.remaining(1) + " " + x.remaining(10) + " " + x.remaining(11), "0 5 5 0");
        });
        all.test(59, "Returns the remaining time that it had", t -> {
            PenOffice x = Boundaries.plain("letter a 30 0 9 0;letter a 30 0 9 0;letter a 1 0 9 0;");
            t.due("the greatest", x.discard(1), 30);
            t.due("the least", x.discard(2), 1);
            x.pass(29);
            t.due("with a minute left", x.discard(0), 1);
            t.due("all are changes", x.undo(), 3);
        });
        all.test(59, "Throws IndexOutOfBoundsException if the letter does not exist", t -> {
            PenOffice x = twelve();
            for (int letter : Boundaries.outside(0, 11)) {
                t.refused("letter " + letter + " of 12", Testing.INDEX, () -> x.discard(letter));
            }
            PenOffice y = new PenOffice();
            t.refusedAndKept(y, "letter 4 of 4", Testing.INDEX, () -> y.discard(4));
            t.refused("undo", Testing.STATE, y::undo);
        });
        all.test(59, "Throws IllegalStateException if it is finished, or it has not arrived", t -> {
            PenOffice x = Boundaries.plain("letter a 1 0 9 0;letter a 9 2 9 0;letter b 9 0 9 0;");
            t.refusedAndKept(x, "two minutes before its arrival", Testing.STATE, () -> x.discard(1));
            x.pass(1);
            t.refusedAndKept(x, "one minute before its arrival", Testing.STATE, () -> x.discard(1));
            t.refusedAndKept(x, "a finished letter", Testing.STATE, () -> x.discard(0));
            x.discard(2);
            t.refusedAndKept(x, "a discarded letter", Testing.STATE, () -> x.discard(2));
            x.pass(1);
            t.due("at its arrival", x.discard(1), 9);
            t.due("the changes", x.undo(), 3);
        });
    }

    private static void runScript(Sentences all) {
        all.test(60, "Parses the input buffer as a script and empties the buffer, also if the text has an error", t -> {
            PenOffice x = new PenOffice();
            t.due("an empty buffer", x.runScript(), 0);
            Testing.type(x, "pass 1;" + " ".repeat(593));
            t.due("a full buffer", x.runScript(), 1);
            t.refused("a byte that is left", Testing.ARGUMENT, () -> x.truncate(1));
            Testing.type(x, "@".repeat(600));
            t.refused("a full buffer with an error", Testing.ARGUMENT, x::runScript);
            t.refused("a byte that is left behind an error", Testing.ARGUMENT, () -> x.truncate(1));
            Testing.type(x, Boundaries.PLAIN);
            t.refused("a setup", Testing.ARGUMENT, x::runScript);
            t.due("the next append", x.append(0, 0, 0, 0, 0), 20);
        });
        all.test(60, "A valid script is executed and counts as a single change, even if no command was executed", t -> {
            PenOffice x = new PenOffice();
            x.runScript();
            t.due("undo of an empty script", x.undo(), 0);
            Testing.script(x, "pass 0;pass 1;");
            t.due("undo of a script that stopped at once", x.undo(), 0);
            Testing.script(x, "pass 1;".repeat(30));
            t.due("thirty commands", x.minute(), 30);
            t.due("undo of thirty commands", x.undo() + " " + x.minute(), "0 0");
            for (int i = 1; i <= 7; i++) {
                x.runScript();
            }
            t.due("undo of seven empty scripts", x.undo(), 5);
        });
        all.test(60, "Returns the number of executed commands", t -> {
            Boundaries.rightScript(t, "", 0);
            Boundaries.rightScript(t, "discard 1;", 0);
            Boundaries.rightScript(t, "policy 0;discard 1;policy 0;", 1);
            Boundaries.rightScript(t, "policy 0;".repeat(29) + "pass 301;", 29);
            Boundaries.rightScript(t, "policy 0;".repeat(30), 30);
        });
        all.test(60, "Throws IllegalArgumentException if the text has an error", t -> {
            Boundaries.wrongScript(t, "|@", 1);
            Boundaries.wrongScript(t, "pass 1;letter |zoe", 3);
            Boundaries.wrongScript(t, "pass 1;".repeat(30) + "|pass", 4);
            Boundaries.wrongScript(t, "pass 1|", 1);
        });
        all.test(60, "in this case only the buffer, the error code and the error position change", t -> {
            String[] texts = {"pass 1;policy 4;@", "discard 3;pass", "letter ann 1 1 1 1;letter zoe", "pass 1;".repeat(30) + "pass"};
            for (String text : texts) {
                PenOffice x = new PenOffice();
                x.pass(2);
                x.save(1);
                x.pass(4);
                x.writeLetters();
                Testing.type(x, text);
                t.refusedAndKept(x, "runScript of " + text, Testing.ARGUMENT, x::runScript);
                t.due("the output", x.outputByte(0) + " " + x.outputByte(4), "97 48");
                t.due("the history", x.undo() + " " + x.minute(), "1 2");
                t.due("the saved state", x.restore(1), 2);
                t.refused("the other slot", Testing.STATE, () -> x.restore(0));
            }
        });
    }

    private static void undo(Sentences all) {
        all.test(61, "Undoes the latest change that has not been undone", t -> {
            PenOffice x = Boundaries.plain("");
            x.pass(1);
            x.pass(10);
            x.undo();
            t.due("the second change", x.minute(), 1);
            x.pass(100);
            x.undo();
            t.due("the third change", x.minute(), 1);
            x.undo();
            t.due("the first change", x.minute(), 0);
            x.setPolicy(3);
            x.setPolicy(3);
            x.undo();
            t.due("a change to the same policy", x.policy(), 3);
            x.undo();
            t.due("the change before it", x.policy(), 0);
        });
        all.test(61, "Returns the number of changes that can still be undone", t -> {
            PenOffice x = Boundaries.plain("");
            x.pass(1);
            t.due("of one change", x.undo(), 0);
            for (int i = 0; i < 9; i++) {
                x.pass(1);
            }
            for (int left = 5; left >= 0; left--) {
                t.due("of nine changes", x.undo(), left);
            }
        });
        all.test(61, "Throws IllegalStateException if there is none", t -> {
            PenOffice x = new PenOffice();
            t.refusedAndKept(x, "undo of a new object", Testing.STATE, x::undo);
            x.pass(1);
            x.undo();
            t.refusedAndKept(x, "undo of an undone change", Testing.STATE, x::undo);
            x.pass(1);
            Testing.type(x, Boundaries.PLAIN);
            x.load();
            t.refusedAndKept(x, "undo after load", Testing.STATE, x::undo);
            x.pass(1);
            x.save(0);
            x.restore(0);
            t.refusedAndKept(x, "undo after restore", Testing.STATE, x::undo);
        });
    }

    private static void save(Sentences all) {
        all.test(62, "Saves the state and replaces what was saved in the slot before", t -> {
            PenOffice x = Boundaries.withSettings("4 2 3 4 2 3 1", "letter a 9 0 9 0;letter b 9 1 5 3;letter a 4 2 9 9;");
            x.save(0);
            x.save(1);
            x.pass(5);
            String state = Testing.stateOf(x);
            x.save(0);
            x.pass(5);
            t.due("slot 1", x.restore(1), 0);
            t.due("slot 0", x.restore(0), 5);
            t.due("the state of slot 0", Testing.stateOf(x), state);
            x.addLetter(0, 1, 0, 1, 0);
            x.save(1);
            x.undo();
            x.save(0);
            t.due("letters of slot 1", x.restore(1) + " " + x.letterCount(), "5 4");
            t.due("letters of slot 0", x.restore(0) + " " + x.letterCount(), "5 3");
        });
        all.test(62, "slot: 0 or 1", t -> {
            PenOffice x = Boundaries.plain("");
            x.pass(1);
            x.save(0);
            x.pass(1);
            x.save(1);
            t.due("the slots", x.restore(0) + " " + x.restore(1), "1 2");
            t.refusedAndKept(x, "2", Testing.INDEX, () -> x.save(2));
            t.refusedAndKept(x, "-1", Testing.INDEX, () -> x.save(-1));
        });
        all.test(62, "Returns the current minute", t -> {
            PenOffice x = Boundaries.plain("");
            t.due("at minute 0", x.save(1), 0);
            Testing.passMany(x, 2000);
            t.due("at minute 2000", x.save(0), 2000);
            t.due("save is no change", x.undo(), 5);
        });
        all.test(62, "Throws IndexOutOfBoundsException if the slot does not exist", t -> {
            PenOffice x = Boundaries.plain("");
            for (int slot : Boundaries.outside(0, 1)) {
                t.refused("save(" + slot + ")", Testing.INDEX, () -> x.save(slot));
            }
            t.refused("nothing is saved in slot 0", Testing.STATE, () -> x.restore(0));
            t.refused("nothing is saved in slot 1", Testing.STATE, () -> x.restore(1));
        });
    }

    private static void restore(Sentences all) {
        all.test(63, "Restores a saved state, which stays saved, and clears the undo history", t -> {
            PenOffice x = Boundaries.withSettings("4 2 3 4 2 3 1", "letter a 9 0 9 0;letter b 9 1 5 3;letter a 4 2 9 9;");
            for (int minute = 0; minute < 7; minute++) {
                x.pass(1);
            }
            String state = Testing.stateOf(x);
            x.save(1);
            for (int time = 0; time < 2; time++) {
                x.addLetter(0, 9, 0, 9, 9);
                x.pass(30);
                x.restore(1);
                t.due("the state", Testing.stateOf(x), state);
                t.refused("undo", Testing.STATE, x::undo);
            }
            x.pass(1);
            t.due("undo of a change behind it", x.undo(), 0);
        });
        all.test(63, "slot: 0 or 1", t -> {
            PenOffice x = Boundaries.plain("");
            x.save(0);
            x.pass(1);
            x.save(1);
            t.due("slot 0", x.restore(0) + " " + x.minute(), "0 0");
            t.due("slot 1", x.restore(1) + " " + x.minute(), "1 1");
            t.refusedAndKept(x, "2", Testing.INDEX, () -> x.restore(2));
            t.refusedAndKept(x, "-1", Testing.INDEX, () -> x.restore(-1));
        });
        all.test(63, "Returns the current minute of the restored state", t -> {
            PenOffice x = Boundaries.plain("");
            x.save(0);
            Testing.passMany(x, 2000);
            x.save(1);
            t.due("minute 0", x.restore(0), 0);
            t.due("minute 2000", x.restore(1), 2000);
        });
        all.test(63, "Throws IndexOutOfBoundsException if the slot does not exist", t -> {
            PenOffice x = Boundaries.plain("");
            for (int slot : Boundaries.outside(0, 1)) {
                t.refused("restore(" + slot + ") with nothing saved", Testing.INDEX, () -> x.restore(slot));
            }
            x.save(0);
            x.save(1);
            x.pass(1);
            for (int slot : Boundaries.outside(0, 1)) {
                t.refused("restore(" + slot + ")", Testing.INDEX, () -> x.restore(slot));
            }
            t.due("the change can be undone", x.undo(), 0);
        });
        all.test(63, "Throws IllegalStateException if nothing is saved in the slot", t -> {
            PenOffice x = Boundaries.plain("");
            x.pass(1);
            t.refusedAndKept(x, "slot 0", Testing.STATE, () -> x.restore(0));
            x.save(0);
            t.refusedAndKept(x, "slot 1", Testing.STATE, () -> x.restore(1));
            t.due("the change can be undone", x.undo(), 0);
            Testing.type(x, Boundaries.PLAIN);
            x.load();
            t.refusedAndKept(x, "slot 0 after load", Testing.STATE, () -> x.restore(0));
        });
    }

    private static void writeLetters(Sentences all) {
        all.test(64, "Writes the letters to the output text, which is replaced", t -> {
            PenOffice x = Boundaries.plain("letter a 30 0 9 0;letter b 30 0 9 0;");
            t.due("two letters", Testing.output(x), "a:30 b:30");
            x.pass(30);
            t.due("a shorter text", Testing.output(x), "a:0! b:30");
            x.discard(1);
            t.due("a text of the same length", Testing.output(x), "a:0! b:0!");
            x.setDeadline(1, 999);
            t.due("the shortest text", Testing.output(x), "a:0! b:0");
            t.refused("nothing is left of the longer one", Testing.INDEX, () -> x.outputByte(8));
            PenOffice y = Boundaries.plain("");
            t.due("without letters", y.writeLetters(), 0);
            y.addLetter(0, 5, 0, 1, 0);
            t.due("a letter", Testing.output(y), "a:5");
            y.undo();
            t.due("without letters again", Testing.output(y), "");
        });
        all.test(64, "Each letter contributes the name of its clerk, a colon (byte 58) and its remaining time in decimal, followed by an asterisk (byte 42)"
            + " if it is the current letter, or an exclamation mark (byte 33) if it is late", t -> {
            PenOffice x = Testing.office("office 0 0 99 0 2 5 0;clerk a;clerk abcxyz;letter abcxyz 11 0 11 0;letter a 1 0 11 0;letter abcxyz 30 999 1 0;");
            t.due("at minute 0", Testing.output(x), "abcxyz:11 a:1 abcxyz:30");
            x.pass(1);
            t.due("10 minutes left", Testing.output(x), "abcxyz:10* a:1 abcxyz:30");
            x.pass(1);
            t.due("9 minutes left", Testing.output(x), "abcxyz:9* a:1 abcxyz:30");
            x.setDeadline(0, 1);
            t.due("a deadline that is over", Testing.output(x), "abcxyz:9* a:1 abcxyz:30");
            x.setDeadline(0, 11);
            x.pass(9);
            t.due("finished at its deadline", Testing.output(x), "abcxyz:0 a:1 abcxyz:30");
            x.pass(1);
            t.due("finished a minute after its deadline", Testing.output(x), "abcxyz:0 a:0! abcxyz:30");
            t.due("the signs", x.outputByte(6) + " " + x.outputByte(7) + " " + x.outputByte(12), "58 48 33");
            x.undo();
            x.undo();
            t.due("the asterisk", x.writeLetters() + " " + x.outputByte(8), "23 42");
        });
        all.test(64, "The letters appear by ascending number with one space (byte 32) between them", t -> {
            PenOffice x = Boundaries.plain("letter b 1 999 9 0;letter a 2 0 9 0;letter b 3 0 9 0;");
            t.due("three letters", Testing.output(x), "b:1 a:2 b:3");
            t.due("the space", x.outputByte(3), 32);
            t.due("a single letter", Testing.output(Boundaries.plain("letter b 1 0 9 0;")), "b:1");
            String twelve = "";
            for (int i = 1; i <= 12; i++) {
                twelve += "letter a " + i + " 0 9 0;";
            }
            t.due("twelve letters", Testing.output(Boundaries.plain(twelve)), "a:1 a:2 a:3 a:4 a:5 a:6 a:7 a:8 a:9 a:10 a:11 a:12");
        });
        all.test(64, "Returns the length of the output text in bytes", t -> {
            t.due("without letters", Boundaries.plain("").writeLetters(), 0);
            t.due("one letter", Boundaries.plain("letter b 1 0 9 0;").writeLetters(), 3);
            PenOffice x = Testing.office("office 0 0 99 0 2 5 0;clerk abcdef;clerk b;" + "letter abcdef 30 0 9 0;".repeat(12));
            t.due("twelve letters", x.writeLetters(), 119);
            x.pass(1);
            t.due("the longest text", x.writeLetters(), 120);
            t.due("its last byte", x.outputByte(119), 48);
            x.pass(29);
            t.due("a late letter", x.writeLetters(), 119);
        });
    }

    private static void outputByte(Sentences all) {
        all.test(65, "index: position in the output text, from 0", t -> {
            PenOffice x = Boundaries.plain("letter b 17 0 9 0;");
            x.writeLetters();
            t.due("the bytes", x.outputByte(0) + " " + x.outputByte(1) + " " + x.outputByte(2) + " " + x.outputByte(3), "98 58 49 55");
        });
        all.test(65, "Returns the byte", t -> {
            PenOffice x = Testing.office("office 0 0 99 0 2 5 0;clerk az;clerk b;letter az 29 0 9 0;letter az 30 0 9 0;");
            x.writeLetters();
            String text = "az:29 az:30";
            for (int index = 0; index < text.length(); index++) {
                t.due("byte " + index, x.outputByte(index), (int) text.charAt(index));
            }
            x.pass(9);
            t.due("the text of a minute before", x.outputByte(3), (int) '2');
        });
        all.test(65, "Throws IndexOutOfBoundsException if index is out of range or nothing was written yet", t -> {
            PenOffice x = Boundaries.plain("letter b 17 0 9 0;");
            t.refused("before a text is written", Testing.INDEX, () -> x.outputByte(0));
            x.writeLetters();
            for (int index : Boundaries.outside(0, 3)) {
                t.refused("outputByte(" + index + ") of four", Testing.INDEX, () -> x.outputByte(index));
            }
            PenOffice y = Boundaries.plain("");
            y.writeLetters();
            t.refused("a byte of an empty text", Testing.INDEX, () -> y.outputByte(0));
        });
    }
}
