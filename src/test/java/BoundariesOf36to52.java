/** Promises 36 to 52: a test for each sentence that names a boundary. */
final class BoundariesOf36to52 {
    // Each letter is blotted back to its length again and again: with policy 4 none is ever finished.
    private static final String ENDLESS = "office 4 0 99 0 1 1 5;clerk a;clerk b;letter a 2 0 9 0;letter b 2 0 1 0;";
    private static final String NEXT = "office 0 0 99 0 2 5 0;clerk a;clerk b;";

    private BoundariesOf36to52() {
    }

    static void addTo(Sentences all) {
        finishedAndLate(all);
        counters(all);
        quotients(all);
        inconsistencies(all);
        minutesToFinish(all);
        minutesToFinishLetter(all);
        letterWrittenIn(all);
        lateWith(all);
        waitingWith(all);
        bestPolicy(all);
        fewestLate(all);
        all.withoutBoundary(36, "Counts the finished letters");
        all.withoutBoundary(37, "Counts the late letters");
        all.withoutBoundary(38, "Returns the greatest lateness");
        all.withoutBoundary(39, "Returns the number of blots");
        all.withoutBoundary(40, "Returns the number of hand-overs");
        all.withoutBoundary(41, "Returns the number of written minutes");
        all.withoutBoundary(42, "Returns the number of idle minutes");
        all.withoutBoundary(43, "Returns the utilization of the pen");
        all.withoutBoundary(44, "Returns the mean turnaround");
        all.withoutBoundary(45, "Checks the internal consistency of the state");
        all.withoutBoundary(46, "Returns when all letters will be finished");
        all.withoutBoundary(47, "Returns when a letter will be finished");
        all.withoutBoundary(48, "Returns the letter that will be written in a future minute");
        all.withoutBoundary(49, "Returns the number of late letters with a policy from now on");
        all.withoutBoundary(50, "Returns the sum of the waiting times with a policy from now on");
        all.withoutBoundary(51, "Returns the best policy");
        all.withoutBoundary(52, "Returns the least possible number of late letters of an ideal office");
    }

    private static void finishedAndLate(Sentences all) {
        all.test(36, "Returns the number of finished letters", t -> {
            t.due("without letters", Boundaries.plain("").finishedCount(), 0);
            PenOffice x = Boundaries.plain("letter a 2 0 9 0;".repeat(12));
            for (int minute = 0; minute <= 24; minute++) {
                t.due("at minute " + minute, x.finishedCount(), minute / 2);
                x.pass(1);
            }
            PenOffice y = Boundaries.plain("letter a 9 0 9 0;letter a 9 9 9 0;");
            y.discard(0);
            t.due("with a discarded letter", y.finishedCount(), 1);
        });
        all.test(37, "Returns the number of finished letters that are late", t -> {
            t.due("without letters", Boundaries.plain("").lateCount(), 0);
            PenOffice x = Boundaries.plain("letter a 2 0 1 0;".repeat(12));
            x.pass(1);
            t.due("no letter is finished", x.lateCount(), 0);
            x.pass(23);
            t.due("all letters are late", x.lateCount(), 12);
            PenOffice y = Boundaries.plain("letter a 1 0 1 0;letter b 9 0 1 0;letter b 9 0 1 0;");
            y.pass(1);
            y.discard(1);
            t.due("at the deadline", y.lateCount(), 0);
            y.pass(1);
            y.discard(2);
            t.due("discarded a minute after the deadline", y.lateCount(), 1);
            y.setDeadline(2, 2);
            t.due("with a later deadline", y.lateCount(), 0);
            y.setDeadline(2, 1);
            t.due("with the earlier deadline", y.lateCount(), 1);
        });
        all.test(38, "Returns the greatest difference of finish minute and deadline (it can be negative) over all finished letters", t -> {
            PenOffice x = Boundaries.plain("letter a 1 0 999 0;letter a 1 0 2 0;letter a 1 0 2 0;letter a 1 999 1 0;");
            x.discard(0);
            t.due("the least of all", x.greatestLateness(), -999);
            x.pass(1);
            t.due("finished a minute before the deadline", x.greatestLateness(), -1);
            x.pass(1);
            t.due("finished at the deadline", x.greatestLateness(), 0);
            x.pass(100);
            t.due("a letter that is not finished", x.greatestLateness(), 0);
            Testing.passMany(x, 1898);
            t.due("at the end", x.greatestLateness(), 999);
            PenOffice w = Boundaries.plain("letter a 5 0 1 0;letter a 1 0 999 0;");
            w.pass(6);
            t.due("the first by 4 minutes, the second by -993", w.greatestLateness(), 4);
            PenOffice y = Boundaries.plain("letter a 1 0 9 0;");
            Testing.passMany(y, 2000);
            y.addLetter(0, 1, 0, 1, 0);
            y.discard(1);
            t.due("the greatest of all", y.greatestLateness(), 1999);
        });
        all.test(38, "Throws NoSuchElementException if no letter is finished", t -> {
            PenOffice x = Boundaries.plain("");
            t.refused("without letters", Testing.ELEMENT, x::greatestLateness);
            PenOffice y = Boundaries.plain("letter a 2 0 9 0;");
            y.pass(1);
            t.refused("one minute before the end", Testing.ELEMENT, y::greatestLateness);
            y.pass(1);
            t.due("at the end", y.greatestLateness(), -7);
            y.undo();
            t.refused("after undo", Testing.ELEMENT, y::greatestLateness);
        });
    }

    private static void reload(PenOffice x) {
        Testing.type(x, NEXT);
        x.load();
    }

    private static void counters(Sentences all) {
        all.test(39, "Returns the number of blots since the latest setup", t -> {
            PenOffice x = Testing.office(ENDLESS);
            t.due("at first", x.blots(), 0);
            x.pass(1);
            t.due("after the first minute", x.blots(), 0);
            x.pass(1);
            t.due("after the second minute", x.blots(), 1);
            Testing.passMany(x, 1998);
            t.due("at minute 2000", x.blots(), 1999);
            reload(x);
            t.due("after a setup", x.blots(), 0);
        });
        all.test(40, "Returns how often a clerk became the holder since the latest setup", t -> {
            PenOffice x = Testing.office(ENDLESS);
            t.due("at first", x.handOvers(), 0);
            x.pass(1);
            t.due("the first holder", x.handOvers(), 1);
            Testing.passMany(x, 1999);
            t.due("at minute 2000", x.handOvers(), 2000);
            reload(x);
            t.due("after a setup", x.handOvers(), 0);
            PenOffice y = Boundaries.withSettings("0 5 99 0 1 1 5", "letter a 1 0 9 0;letter a 1 0 9 0;");
            y.pass(5);
            t.due("a hand-over of five minutes", y.handOvers(), 1);
            y.pass(9);
            t.due("two letters of one clerk", y.handOvers(), 1);
        });
        all.test(41, "Returns the number of minutes in which a letter was written since the latest setup", t -> {
            PenOffice x = Testing.office(ENDLESS);
            t.due("at first", x.writtenMinutes(), 0);
            Testing.passMany(x, 2000);
            t.due("at minute 2000", x.writtenMinutes(), 2000);
            reload(x);
            t.due("after a setup", x.writtenMinutes(), 0);
            PenOffice y = Boundaries.withSettings("0 1 1 1 1 1 5", "letter a 1 1 9 0;");
            for (int minute = 0; minute < 6; minute++) {
                t.due("at minute " + minute, y.writtenMinutes(), minute < 3 ? 0 : 1);
                y.pass(1);
            }
        });
        all.test(42, "Returns the number of idle minutes since the latest setup", t -> {
            PenOffice x = Boundaries.plain("");
            t.due("at first", x.idleMinutes(), 0);
            Testing.passMany(x, 2000);
            t.due("at minute 2000", x.idleMinutes(), 2000);
            reload(x);
            t.due("after a setup", x.idleMinutes(), 0);
            PenOffice y = Boundaries.withSettings("0 1 1 1 1 1 5", "letter a 1 1 9 0;");
            int[] idle = {0, 1, 1, 1, 1, 2};
            for (int minute = 0; minute < idle.length; minute++) {
                t.due("at minute " + minute, y.idleMinutes(), idle[minute]);
                y.pass(1);
            }
        });
    }

    private static void quotients(Sentences all) {
        all.test(43, "Returns writtenMinutes() divided by the current minute, both converted to float", t -> {
            PenOffice x = Boundaries.plain("letter a 30 1 9 0;");
            x.pass(1);
            t.due("0 of 1", x.utilization(), 0.0f);
            x.pass(1);
            t.due("1 of 2", x.utilization(), 0.5f);
            x.pass(1);
            t.due("2 of 3", x.utilization(), 0.6666667f);
            Testing.passMany(x, 1997);
            t.due("30 of 2000", x.utilization(), 0.015f);
            PenOffice y = Testing.office(ENDLESS);
            Testing.passMany(y, 2000);
            t.due("2000 of 2000", y.utilization(), 1.0f);
        });
        all.test(43, "0.0f at minute 0", t -> {
            t.due("of a new object", new PenOffice().utilization(), 0.0f);
            PenOffice x = Boundaries.plain("letter a 30 0 9 0;");
            x.pass(1);
            t.due("at minute 1", x.utilization(), 1.0f);
            x.undo();
            t.due("after undo", x.utilization(), 0.0f);
        });
        all.test(44, "Returns the sum of finish minute minus arrival minute over all finished letters, divided by their number, both converted to double", t -> {
            PenOffice x = Boundaries.plain("letter a 1 0 9 0;letter a 1 0 9 0;letter a 2 0 9 0;letter b 9 7 9 0;");
            x.pass(1);
            t.due("one letter", x.meanTurnaround(), 1.0);
            x.pass(1);
            t.due("two letters", x.meanTurnaround(), 1.5);
            x.pass(1);
            t.due("a letter that is not finished", x.meanTurnaround(), 1.5);
            x.pass(1);
            t.due("three letters", x.meanTurnaround(), 7.0 / 3.0);
            x.pass(3);
            x.discard(3);
            t.due("a letter that was discarded at its arrival", x.meanTurnaround(), 1.75);
            PenOffice y = Boundaries.plain("letter a 9 0 9 0;");
            y.discard(0);
            t.due("only such a letter", y.meanTurnaround(), 0.0);
            PenOffice z = Boundaries.plain("letter a 1 0 9 0;".repeat(12));
            z.pass(12);
            t.due("twelve letters", z.meanTurnaround(), 6.5);
        });
        all.test(44, "0.0 if there are none", t -> {
            t.due("without letters", Boundaries.plain("").meanTurnaround(), 0.0);
            PenOffice x = Boundaries.plain("letter a 2 0 9 0;");
            x.pass(1);
            t.due("one minute before the end", x.meanTurnaround(), 0.0);
            x.pass(1);
            t.due("at the end", x.meanTurnaround(), 2.0);
        });
    }

    private static void inconsistencies(Sentences all) {
        all.test(45, "Returns the current minute minus writtenMinutes(), idleMinutes() and the minutes that belonged to refills and hand-overs"
            + " since the latest setup", t -> {
            PenOffice x = Boundaries.withSettings("0 2 1 2 1 5 0", "letter a 1 1 9 0;letter b 1 1 9 0;");
            for (int minute = 0; minute < 14; minute++) {
                t.due("at minute " + minute, x.inconsistencies(), 0);
                x.pass(1);
            }
            Testing.type(x, NEXT + "letter a 2 2 9 0;");
            x.load();
            t.due("after a setup", x.inconsistencies(), 0);
            x.pass(9);
            t.due("later", x.inconsistencies(), 0);
        });
        all.test(45, "always 0", t -> {
            PenOffice x = Boundaries.withSettings("4 2 3 4 2 3 1", "letter a 9 0 9 0;letter b 9 1 5 3;letter a 4 2 9 9;");
            t.due("at minute 0", x.inconsistencies(), 0);
            x.pass(7);
            x.save(0);
            x.pass(13);
            t.due("at minute 20", x.inconsistencies(), 0);
            x.undo();
            t.due("after undo", x.minute() + " " + x.inconsistencies(), "7 0");
            x.pass(20);
            x.restore(0);
            t.due("after restore", x.minute() + " " + x.inconsistencies(), "7 0");
            x.minutesToFinish();
            t.due("after a forecast", x.inconsistencies(), 0);
            Testing.passMany(x, 1993);
            t.due("at minute 2000", x.inconsistencies(), 0);
        });
    }

    private static void minutesToFinish(Sentences all) {
        all.test(46, "Returns the least number of minutes after which all letters are finished", t -> {
            PenOffice x = Boundaries.withSettings("0 2 1 9 1 5 0", "letter a 1 0 9 0;");
            // A hand-over of 2 and a minute; the refill behind it does not count.
            for (int minute = 0; minute < 3; minute++) {
                t.due("at minute " + minute, x.minutesToFinish(), 3 - minute);
                x.pass(1);
            }
            t.due("the letter behind an arrival", Boundaries.plain("letter a 1 0 9 0;letter b 30 999 9 0;").minutesToFinish(), 1029);
        });
        all.test(46, "0 if they are", t -> {
            t.due("without letters", Boundaries.plain("").minutesToFinish(), 0);
            PenOffice x = Boundaries.plain("letter a 2 0 9 0;letter b 9 0 9 0;");
            x.discard(1);
            x.pass(1);
            t.due("a minute before the end", x.minutesToFinish(), 1);
            x.pass(1);
            t.due("at the end", x.minutesToFinish(), 0);
        });
        all.test(46, "NONE if more than 1500 minutes are needed", t -> {
            t.due("1499 minutes", Boundaries.slow(5, 8).minutesToFinish(), 1499);
            t.due("1500 minutes", Boundaries.slow(5, 9).minutesToFinish(), 1500);
            t.due("1501 minutes", Boundaries.slow(5, 10).minutesToFinish(), -1);
            t.due("1791 minutes", Boundaries.slow(6, 0).minutesToFinish(), -1);
            t.due("without an end", Testing.office(ENDLESS).minutesToFinish(), -1);
        });
    }

    private static void minutesToFinishLetter(Sentences all) {
        all.test(47, "letter: number of a letter", t -> {
            PenOffice x = Boundaries.plain("letter a 2 0 9 0;".repeat(12));
            for (int letter = 0; letter < 12; letter++) {
                t.due("letter " + letter, x.minutesToFinishLetter(letter), 2 * letter + 2);
            }
        });
        all.test(47, "Returns the least number of minutes after which the letter is finished", t -> {
            PenOffice x = Boundaries.withSettings("0 2 1 3 1 5 0", "letter a 2 0 9 0;letter b 1 0 9 0;");
            // A hand-over of 2, letter 0, a refill of 3, letter 0, a refill of 3, a hand-over of 2, letter 1.
            int[] first = {7, 6, 5, 4, 3, 2, 1, 0};
            for (int minute = 0; minute < first.length; minute++) {
                t.due("at minute " + minute, x.minutesToFinishLetter(0) + " " + x.minutesToFinishLetter(1), first[minute] + " " + (13 - minute));
                x.pass(1);
            }
        });
        all.test(47, "0 if it is", t -> {
            PenOffice x = Boundaries.plain("letter a 2 0 9 0;letter b 9 0 9 0;");
            x.discard(1);
            t.due("discarded", x.minutesToFinishLetter(1), 0);
            x.pass(1);
            t.due("a minute before the end", x.minutesToFinishLetter(0), 1);
            x.pass(1);
            t.due("at the end", x.minutesToFinishLetter(0), 0);
            x.pass(99);
            t.due("later", x.minutesToFinishLetter(0), 0);
        });
        all.test(47, "NONE if more than 1500 minutes are needed", t -> {
            t.due("1499 minutes", Boundaries.slow(5, 8).minutesToFinishLetter(4), 1499);
            t.due("1500 minutes", Boundaries.slow(5, 9).minutesToFinishLetter(4), 1500);
            t.due("1501 minutes", Boundaries.slow(5, 10).minutesToFinishLetter(4), -1);
            t.due("a letter before it", Boundaries.slow(5, 10).minutesToFinishLetter(3), 1201);
            t.due("without an end", Testing.office(ENDLESS).minutesToFinishLetter(1), -1);
        });
        all.test(47, "Throws IndexOutOfBoundsException if the letter does not exist", t -> {
            PenOffice x = Boundaries.plain("letter a 2 0 9 0;".repeat(12));
            for (int letter : Boundaries.outside(0, 11)) {
                t.refused("letter " + letter + " of 12", Testing.INDEX, () -> x.minutesToFinishLetter(letter));
            }
            PenOffice y = new PenOffice();
            t.refused("letter 4 of 4", Testing.INDEX, () -> y.minutesToFinishLetter(4));
            PenOffice z = Boundaries.plain("");
            t.refused("letter 0 of none", Testing.INDEX, () -> z.minutesToFinishLetter(0));
        });
    }

    private static void letterWrittenIn(Sentences all) {
        all.test(48, "minutes: number of minutes after the current minute, 0 to 300", t -> {
            PenOffice x = Boundaries.plain("letter a 1 0 9 0;letter a 1 299 9 0;letter b 1 300 9 0;letter b 1 301 9 0;");
            t.due("0", x.letterWrittenIn(0), 0);
            t.due("299", x.letterWrittenIn(299), 1);
            t.due("300", x.letterWrittenIn(300), 2);
            x.pass(1);
            t.due("300 at minute 1", x.letterWrittenIn(300), 3);
        });
        all.test(48, "0 means the minute that begins now", t -> {
            PenOffice x = Boundaries.plain("letter a 1 0 9 0;letter b 1 1 9 0;letter a 1 3 9 0;");
            int[] written = {0, 1, -1, 2, -1};
            for (int minute = 0; minute < written.length; minute++) {
                t.due("at minute " + minute, x.letterWrittenIn(0), written[minute]);
                x.pass(1);
            }
        });
        all.test(48, "Returns the number of the letter that is written in this minute", t -> {
            PenOffice x = Boundaries.withSettings("4 0 99 0 2 1 0", "letter a 3 0 9 0;" + "letter b 2 0 9 0;".repeat(11));
            for (int minute = 0; minute < 24; minute++) {
                t.due("minute " + minute, x.letterWrittenIn(minute), minute / 2);
            }
            t.due("the rest of letter 0", x.letterWrittenIn(24), 0);
            t.due("behind it", x.letterWrittenIn(25), -1);
        });
        all.test(48, "NONE if none is", t -> {
            PenOffice x = Boundaries.withSettings("0 2 1 2 1 5 0", "letter a 2 1 9 0;");
            // Idle, a hand-over of 2, written, a refill of 2, written, a refill of 2, idle.
            int[] written = {-1, -1, -1, 0, -1, -1, 0, -1, -1, -1};
            for (int minute = 0; minute < written.length; minute++) {
                t.due("minute " + minute, x.letterWrittenIn(minute), written[minute]);
            }
            t.due("minute 300", x.letterWrittenIn(300), -1);
            t.due("without letters", Boundaries.plain("").letterWrittenIn(0), -1);
        });
        all.test(48, "Throws IllegalArgumentException if minutes is out of range", t -> {
            PenOffice x = new PenOffice();
            for (int minutes : Boundaries.outside(0, 300)) {
                t.refused("letterWrittenIn(" + minutes + ")", Testing.ARGUMENT, () -> x.letterWrittenIn(minutes));
            }
        });
    }

    private static void lateWith(Sentences all) {
        all.test(49, "policy: 0 to 4", t -> {
            // By number the second is late; by length the first; by deadline the first; by priority both; in turn both.
            PenOffice x = Boundaries.withSettings("0 0 99 0 1 20 0", "letter a 4 0 4 0;letter b 1 0 1 0;letter a 3 0 20 9;");
            int[] late = {1, 1, 1, 2, 2};
            for (int policy = 0; policy < 5; policy++) {
                t.due("lateWith(" + policy + ")", x.lateWith(policy), late[policy]);
            }
        });
        all.test(49, "Returns lateCount() after 1500 minutes with this policy, plus the number of letters that are not finished then", t -> {
            PenOffice x = Boundaries.plain("letter a 2 0 2 0;letter b 2 0 4 0;letter a 1 0 4 0;");
            t.due("finished at the deadline, and a minute later", x.lateWith(0), 1);
            PenOffice y = Testing.office(ENDLESS);
            t.due("letters that are never finished", y.lateWith(4), 2);
            t.due("with an end", y.lateWith(0), 1);
            y.discard(0);
            t.due("a letter that is finished in time, and one that is late", y.lateWith(4), 1);
            t.due("without letters", Boundaries.plain("").lateWith(0), 0);
            // The first three end at 300, 600 and 900, before their deadlines.
            t.due("with a letter of 1500 minutes", Boundaries.slow(5, 9).lateWith(0), 2);
            t.due("with a letter of 1501 minutes", Boundaries.slow(5, 10).lateWith(0), 2);
            t.due("twelve letters that take longer", Boundaries.slow(12, 0).lateWith(0), 9);
            PenOffice z = Boundaries.plain("letter a 1 0 1 0;letter a 1 0 1 0;");
            z.pass(2);
            t.due("letters that were finished before", z.lateWith(3), 1);
        });
        all.test(49, "Throws IllegalArgumentException if policy is out of range", t -> {
            PenOffice x = new PenOffice();
            for (int policy : Boundaries.outside(0, 4)) {
                t.refused("lateWith(" + policy + ")", Testing.ARGUMENT, () -> x.lateWith(policy));
            }
        });
    }

    private static void waitingWith(Sentences all) {
        all.test(50, "policy: 0 to 4", t -> {
            PenOffice x = Boundaries.withSettings("0 0 99 0 1 20 0", "letter a 4 0 4 0;letter b 1 0 1 0;letter a 3 0 20 9;");
            // By number 0, 4 and 5; by length 1, 2 and 0 wait 0, 1 and 4; by deadline 1, 0 and 2 wait 0, 1 and 5;
            // by priority 2, 0 and 1 wait 0, 3 and 7; in turn 0 1 2 0 2 0 2 0 wait 4, 1 and 4.
            int[] waiting = {9, 5, 6, 10, 9};
            for (int policy = 0; policy < 5; policy++) {
                t.due("waitingWith(" + policy + ")", x.waitingWith(policy), waiting[policy]);
            }
        });
        all.test(50, "Returns the sum of waitingTime() of all letters after 1500 minutes with this policy", t -> {
            t.due("without letters", Boundaries.plain("").waitingWith(0), 0);
            PenOffice x = Testing.office(ENDLESS);
            t.due("letters that are never finished", x.waitingWith(4), 1500);
            x.pass(1);
            t.due("one minute later", x.waitingWith(4), 1501);
            // Letters wait for those before them and in 29 refills of their own; after 1500 minutes 29 minutes of the last are written.
            int before = (301 - 40) + (601 - 40) + (901 - 40) + (1201 - 40);
            t.due("with a letter of 1500 minutes", Boundaries.slow(5, 9).waitingWith(0), before + 1500 - 39);
            t.due("with a letter of 1501 minutes", Boundaries.slow(5, 10).waitingWith(0), before + 1500 - 39);
            PenOffice y = Boundaries.plain("letter a 2 0 9 0;letter b 9 0 9 0;letter a 1 999 9 0;");
            y.pass(1);
            y.discard(1);
            t.due("of a discarded letter, and of one that comes later", y.waitingWith(0), 1);
            PenOffice z = Boundaries.slow(2, 9);
            Testing.passMany(z, 2000);
            t.due("at minute 2000", z.waitingWith(0), (300 - 39) + (600 - 39));
        });
        all.test(50, "Throws IllegalArgumentException if policy is out of range", t -> {
            PenOffice x = new PenOffice();
            for (int policy : Boundaries.outside(0, 4)) {
                t.refused("waitingWith(" + policy + ")", Testing.ARGUMENT, () -> x.waitingWith(policy));
            }
        });
    }

    private static void bestPolicy(Sentences all) {
        all.test(51, "Returns the policy with the least result of lateWith()", t -> {
            // In each office a letter is late anyway, and only one policy lets it wait until the others have ended in time.
            t.due("policy 0", Boundaries.withSettings("3 0 99 0 1 20 0", "letter a 4 0 4 0;letter a 4 0 8 0;letter b 3 0 2 9;").bestPolicy(), 0);
            t.due("policy 1", Boundaries.withSettings("0 0 99 0 9 20 0", "letter a 5 0 4 9;letter a 1 0 5 0;letter b 1 0 5 0;").bestPolicy(), 1);
            t.due("policy 2", Boundaries.withSettings("0 0 99 0 1 20 0", "letter a 2 0 9 9;letter a 4 0 4 0;letter a 3 0 7 5;").bestPolicy(), 2);
            t.due("policy 3", Boundaries.withSettings("0 0 99 0 1 20 0", "letter a 3 0 2 0;letter a 4 0 5 9;letter b 4 0 9 8;").bestPolicy(), 3);
            PenOffice x = Boundaries.withSettings("0 0 99 0 1 20 0", "letter a 4 0 1 9;letter b 3 0 6 0;");
            x.pass(1);
            t.due("policy 4", x.bestPolicy(), 4);
            t.due("with policy 4 no letter is ever finished", Testing.office(ENDLESS).bestPolicy(), 0);
        });
        all.test(51, "among several such policies the one with the least result of waitingWith(), and among several such ones the lowest number", t -> {
            t.due("without letters", Boundaries.plain("").bestPolicy(), 0);
            PenOffice x = Boundaries.withSettings("3 0 99 0 1 20 0", "letter a 5 0 999 0;letter b 2 0 999 0;");
            // The sums of the waiting times are 5, 2, 5, 5 and, in turn 0 1 0 1, 2 and 2.
            t.due("policy 1 with the least waiting time", x.bestPolicy(), 1);
            x.setDeadline(1, 998);
            t.due("policies 1 and 2 with the same", x.bestPolicy(), 1);
            x.setPriority(1, 9);
            t.due("policies 1, 2 and 3 with the same", x.bestPolicy(), 1);
            x.discard(0);
            t.due("all with the same", x.bestPolicy(), 0);
            PenOffice y = Boundaries.withSettings("4 0 99 0 1 20 0", "letter a 3 0 9 0;letter b 4 0 4 9;");
            t.due("policies 2 and 3 with the same", y.bestPolicy(), 2);
            y.setPriority(1, 0);
            y.setDeadline(0, 3);
            y.setDeadline(1, 3);
            t.due("policies 0 to 3 with the same", y.bestPolicy(), 0);
        });
    }

    private static int fewest(String letters) {
        return Testing.office("office 0 5 1 9 1 9 5;clerk a;clerk b;" + letters).fewestLate();
    }

    private static void fewestLate(Sentences all) {
        all.test(52, "In an ideal office all letters that are not finished can be written now, whether they have arrived or not, one after the other in any"
            + " order and without breaks", t -> {
            t.due("a letter of the latest arrival", fewest("letter a 5 999 5 0;"), 0);
            t.due("no hand-overs and no refills", fewest("letter a 5 0 5 0;letter b 5 0 10 0;letter a 1 0 11 0;"), 0);
            t.due("against the order of the numbers", fewest("letter a 4 0 9 0;letter b 3 999 5 0;letter a 2 500 2 0;"), 0);
            t.due("twelve letters of 30 minutes", fewest("letter a 30 999 360 0;".repeat(12)), 0);
            t.due("twelve letters of 30 minutes, a minute too early", fewest("letter a 30 999 359 0;".repeat(12)), 1);
        });
        all.test(52, "a letter is late if it would be finished after its deadline", t -> {
            t.due("at the deadline", fewest("letter a 30 0 30 0;"), 0);
            t.due("a minute after the deadline", fewest("letter a 30 0 29 0;"), 1);
            t.due("a letter of a minute", fewest("letter a 1 0 1 0;"), 0);
            t.due("two letters of a minute", fewest("letter a 1 0 1 0;letter a 1 0 1 0;"), 1);
        });
        all.test(52, "The first letter would begin at the current minute", t -> {
            PenOffice x = Boundaries.plain("letter a 1 0 9 0;letter a 3 99 8 0;");
            x.pass(5);
            t.due("at minute 5, to end at 8", x.fewestLate(), 0);
            x.pass(1);
            t.due("at minute 6, to end at 9", x.fewestLate(), 1);
            x.setDeadline(1, 9);
            t.due("with a later deadline", x.fewestLate(), 0);
            Testing.passMany(x, 1994);
            x.addLetter(0, 1, 0, 999, 0);
            t.due("at minute 2000", x.fewestLate(), 1);
        });
        all.test(52, "Returns the least number of late letters among those that are not finished now", t -> {
            t.due("without letters", fewest(""), 0);
            t.due("all twelve", fewest("letter a 2 0 1 0;".repeat(12)), 12);
            t.due("eleven of twelve", fewest("letter a 1 0 1 0;".repeat(12)), 11);
            t.due("the longest is late", fewest("letter a 6 0 6 0;letter a 4 0 7 0;letter a 3 0 7 0;"), 1);
            t.due("the first by deadline is late", fewest("letter a 6 0 6 0;letter a 4 0 8 0;letter a 4 0 8 0;"), 1);
            t.due("the longest, in the middle, is late", fewest("letter a 2 0 4 0;letter b 6 0 8 0;letter a 3 0 10 0;letter a 3 0 10 0;"), 1);
            t.due("three are late one after the other",
                fewest("letter a 2 0 4 0;letter b 6 0 8 0;letter a 3 0 10 0;letter a 3 0 10 0;letter b 5 0 11 0;letter b 4 0 11 0;"), 3);
            PenOffice x = Boundaries.plain("letter a 2 0 1 0;letter b 9 0 1 0;letter b 1 0 1 0;");
            t.due("at minute 0", x.fewestLate(), 2);
            x.pass(2);
            t.due("a late letter that is finished", x.lateCount() + " " + x.fewestLate(), "1 2");
            x.discard(1);
            t.due("a letter that was discarded", x.lateCount() + " " + x.fewestLate(), "2 1");
            x.pass(1);
            t.due("when all are finished", x.lateCount() + " " + x.fewestLate(), "3 0");
        });
    }
}
