/** The terms up to "selection": a test for each sentence that names a boundary. */
final class BoundariesOfOffice {
    private BoundariesOfOffice() {
    }

    static void addTo(Sentences all) {
        calls(all);
        clerksAndLetters(all);
        finishedReadyLate(all);
        settings(all);
        atFirst(all);
        minutes(all);
        refills(all);
        handOvers(all);
        writing(all);
        ties(all);
        policies0to2(all);
        policy3(all);
        policy4(all);
        runs(all);
        all.withoutBoundary(0, "A simulator of clerks who share one pen", "what later calls answer is free",
            "It schedules letters by five policies (first come, shortest remaining time, earliest deadline, priority with aging, round robin),"
                + " with hand-over times, ink refills and blots after preemptions, and it compares policies",
            "Clerks and letters", "Settings", "The office", "The holder is the clerk who has the pen", "One minute",
            "Otherwise a letter is selected as described below", "The selected letter is written", "Selection",
            "The policies are numbered as follows", "The waiting time is defined at the method waitingTime()");
    }

    private static void calls(Sentences all) {
        all.test(0, "An object is used for at most 512 calls after it has been made", t -> {
            PenOffice x = new PenOffice();
            for (int call = 0; call < 511; call++) {
                x.pass(3);
            }
            t.due("the 512th call", x.undo(), 5);
            PenOffice y = new PenOffice();
            for (int call = 0; call < 511; call++) {
                y.bestPolicy();
            }
            t.due("the 512th of the dearest calls", y.bestPolicy(), 3);
            PenOffice z = new PenOffice();
            for (int call = 0; call < 510; call++) {
                z.runScript();
            }
            z.append(-1, -1, -1, -1, -1);
            t.refused("the 512th call, which is refused", Testing.ARGUMENT, z::load);
        });
    }

    private static void clerksAndLetters(Sentences all) {
        all.test(0, "There are 2 to 6 clerks, numbered from 0, each with a name of 1 to 6 letters a to z", t -> {
            String head = "office 0 0 99 0 2 5 0;";
            Boundaries.wrongSetup(t, head + "|", 1);
            Boundaries.wrongSetup(t, head + "clerk a;|", 1);
            Boundaries.wrongSetup(t, head + "clerk a;|letter a 1 0 1 0;", 1);
            PenOffice two = Testing.office(head + "clerk a;clerk zazzaz;");
            t.due("two clerks", two.clerkCount(), 2);
            t.due("the shortest name", Testing.nameOf(two, 0), "a");
            t.due("the longest name", Testing.nameOf(two, 1), "zazzaz");
            PenOffice six = Testing.office(Boundaries.SIX_CLERKS);
            t.due("six clerks", six.clerkCount(), 6);
            t.due("the name of the sixth", Testing.nameOf(six, 5), "f");
            Boundaries.wrongSetup(t, Boundaries.SIX_CLERKS + "|clerk g;", 4);
            Boundaries.wrongSetup(t, head + "clerk |;clerk b;", 1);
            Boundaries.wrongSetup(t, head + "clerk |abcdefg;clerk b;", 3);
            Boundaries.wrongSetup(t, head + "clerk |`;clerk b;", 1);
            Boundaries.wrongSetup(t, head + "clerk |{;clerk b;", 1);
            Boundaries.wrongSetup(t, head + "clerk |A;clerk b;", 1);
            Boundaries.wrongSetup(t, head + "clerk |0;clerk b;", 1);
        });
        all.test(0, "names are distinct", t -> {
            Boundaries.wrongSetup(t, "office 0 0 99 0 2 5 0;clerk a;clerk |a;", 3);
            Boundaries.wrongSetup(t, Boundaries.SIX_CLERKS.replace("clerk f", "clerk |a"), 3);
            Boundaries.wrongSetup(t, Boundaries.SIX_CLERKS.replace("clerk f", "clerk |e"), 3);
            Boundaries.rightSetup(t, "office 0 0 99 0 2 5 0;clerk aa;clerk a;clerk aaa;clerk ab;clerk ba;", 0);
        });
        all.test(0, "There are at most 12 letters, numbered from 0 in the order in which they were added", t -> {
            String eleven = "";
            for (int i = 0; i < 11; i++) {
                eleven += "letter a " + (i + 1) + " 0 9 0;";
            }
            PenOffice x = Boundaries.plain(eleven);
            t.due("the number of the twelfth letter", x.addLetter(1, 12, 0, 9, 0), 11);
            t.due("the length of letter 0", x.length(0), 1);
            t.due("the length of letter 10", x.length(10), 11);
            t.due("the length of letter 11", x.length(11), 12);
            t.refused("a 13th letter", Testing.STATE, () -> x.addLetter(0, 1, 0, 1, 0));
            PenOffice y = Boundaries.plain(eleven + "letter b 12 0 9 0;");
            t.due("twelve letters of a setup", y.letterCount(), 12);
            t.due("the length of letter 11 of a setup", y.length(11), 12);
            Boundaries.wrongSetup(t, Boundaries.PLAIN + "letter a 1 0 1 0;".repeat(12) + "|letter a 1 0 1 0;", 4);
            PenOffice z = Boundaries.plain("");
            t.due("the number of the first letter", z.addLetter(0, 1, 0, 1, 0), 0);
        });
        all.test(0, "A letter belongs to a clerk and has a length (1 to 30 minutes), an arrival minute (0 to 2000", t -> {
            PenOffice x = Boundaries.plain("letter a 1 0 9 0;letter b 30 0 9 0;");
            t.due("the least length and arrival", x.length(0) + " " + x.arrival(0), "1 0");
            t.due("the greatest length", x.length(1), 30);
            Boundaries.wrongSetup(t, Boundaries.PLAIN + "letter a |0 0 9 0;", 2);
            Boundaries.wrongSetup(t, Boundaries.PLAIN + "letter a |31 0 9 0;", 2);
            Testing.passMany(x, 1001);
            t.due("arrival 2000", x.arrival(x.addLetter(0, 1, 999, 9, 0)), 2000);
            x.pass(1);
            t.refused("arrival 2001", Testing.STATE, () -> x.addLetter(0, 1, 999, 9, 0));
        });
        all.test(0, "at most 999 in a setup text), a deadline (a minute, 1 to 999) and a priority (0 to 9)", t -> {
            PenOffice x = Boundaries.plain("letter a 1 999 1 0;letter b 1 0 999 9;");
            t.due("arrival 999", x.arrival(0), 999);
            t.due("the least deadline and priority", x.deadline(0) + " " + x.priority(0), "1 0");
            t.due("the greatest deadline and priority", x.deadline(1) + " " + x.priority(1), "999 9");
            Boundaries.wrongSetup(t, Boundaries.PLAIN + "letter a 1 |1000 9 0;", 1);
            Boundaries.wrongSetup(t, Boundaries.PLAIN + "letter a 1 0 |0 0;", 2);
            Boundaries.wrongSetup(t, Boundaries.PLAIN + "letter a 1 0 |1000 0;", 1);
            Boundaries.wrongSetup(t, Boundaries.PLAIN + "letter a 1 0 1 |10;", 2);
        });
    }

    private static void finishedReadyLate(Sentences all) {
        all.test(0, "Its remaining time is its length at first", t -> {
            PenOffice x = Boundaries.plain("letter a 1 0 9 0;letter a 30 99 9 0;");
            x.addLetter(1, 30, 9, 9, 9);
            x.addLetter(1, 1, 0, 9, 9);
            t.due("the remaining times", x.remaining(0) + " " + x.remaining(1) + " " + x.remaining(2) + " " + x.remaining(3), "1 30 30 1");
        });
        all.test(0, "A letter is finished when its remaining time is 0", t -> {
            PenOffice x = Boundaries.plain("letter a 2 0 9 0;letter b 9 0 9 0;");
            x.pass(1);
            t.due("a letter with one minute left", x.remaining(0) + " " + x.finishedCount(), "1 0");
            x.pass(1);
            t.due("a letter with nothing left", x.remaining(0) + " " + x.finishedCount(), "0 1");
            x.discard(1);
            t.due("a discarded letter", x.remaining(1) + " " + x.finishedCount(), "0 2");
        });
        all.test(0, "A letter is ready if its arrival minute is at most the current minute and it is not finished", t -> {
            PenOffice x = Boundaries.plain("letter a 1 3 9 0;letter b 9 0 9 0;");
            x.discard(1);
            t.due("a letter that was discarded", x.isReady(1), false);
            x.pass(2);
            t.due("one minute before its arrival", x.isReady(0), false);
            x.pass(1);
            t.due("at its arrival", x.isReady(0), true);
            x.pass(1);
            t.due("finished", x.isReady(0), false);
        });
        all.test(0, "A finished letter is late if its finish minute is greater than its deadline", t -> {
            PenOffice x = Boundaries.plain("letter a 3 0 3 0;letter a 2 0 4 0;letter a 9 0 1 0;");
            x.pass(3);
            t.due("finished at its deadline, with a letter behind it that is not finished", x.lateCount(), 0);
            x.pass(1);
            t.due("at the deadline of a letter that is not finished", x.lateCount(), 0);
            x.pass(1);
            t.due("finished one minute after its deadline", x.lateCount(), 1);
        });
    }

    private static void settings(Sentences all) {
        all.test(0, "The hand-over time is 0 to 5 minutes, the ink capacity is 1 to 99 minutes, the refill time is 0 to 9 minutes,"
            + " the quantum is 1 to 9 minutes, the aging time is 1 to 20 minutes, and the blot is 0 to 5 minutes", t -> {
            int[] least = {0, 1, 0, 1, 1, 0};
            int[] most = {5, 99, 9, 9, 20, 5};
            for (int place = 0; place < 6; place++) {
                Boundaries.rightSetup(t, setup(place, "", least[place]), 0);
                Boundaries.rightSetup(t, setup(place, "", most[place]), 0);
                Boundaries.wrongSetup(t, setup(place, "|", most[place] + 1), 2);
                if (least[place] > 0) {
                    Boundaries.wrongSetup(t, setup(place, "|", 0), 2);
                }
            }
            Boundaries.wrongSetup(t, "office 0 |-1 1 1 1 1 1;", 1);
            PenOffice x = Boundaries.withSettings("4 5 99 9 9 20 5", "letter a 30 0 9 0;letter a 30 0 9 0;letter b 1 0 9 0;");
            t.due("the greatest ink", x.ink(), 99);
            x.pass(5);
            t.due("the greatest hand-over time", x.handOverLeft() + " " + x.writtenMinutes(), "0 0");
            x.pass(9);
            t.due("the greatest quantum", x.runLength() + " " + x.selectedLetter(), "9 1");
            x.pass(1);
            t.due("the greatest blot", x.remaining(0), 26);
            x.pass(4);
            t.due("19 minutes of the greatest aging time", x.effectivePriority(2), 0);
            x.pass(1);
            t.due("the greatest aging time", x.effectivePriority(2), 1);
            PenOffice y = Boundaries.withSettings("0 0 1 9 1 1 0", "letter a 2 0 9 0;");
            y.pass(10);
            t.due("the greatest refill time", y.writtenMinutes() + " " + y.ink() + " " + y.refillLeft(), "1 1 0");
        });
    }

    /** A setup with ones but for a single setting. */
    private static String setup(int place, String mark, int value) {
        StringBuilder text = new StringBuilder("office 1");
        for (int i = 0; i < 6; i++) {
            text.append(' ').append(i == place ? mark + value : "1");
        }
        return text + ";clerk a;clerk b;";
    }

    private static void atFirst(Sentences all) {
        all.test(0, "The current minute is 0 at first and at most 2000", t -> {
            PenOffice x = Boundaries.plain("");
            t.due("at first", x.minute(), 0);
            Testing.passMany(x, 1999);
            t.refused("minute 2001", Testing.STATE, () -> x.pass(2));
            x.pass(1);
            t.due("at the end", x.minute(), 2000);
            t.refused("minute 2001", Testing.STATE, () -> x.pass(1));
            t.due("still", x.minute(), 2000);
        });
        all.test(0, "at first no clerk has it", t -> {
            PenOffice x = Boundaries.plain("letter a 1 1 9 0;");
            t.due("at first", x.holder(), -1);
            x.pass(1);
            t.due("after an idle minute", x.holder(), -1);
            x.pass(1);
            t.due("after clerk 0 has written", x.holder(), 0);
            t.due("in a new object", new PenOffice().holder(), -1);
        });
        all.test(0, "The current letter is the letter that was written last, unless it is finished", t -> {
            PenOffice x = Boundaries.plain("letter a 2 0 9 0;letter b 2 0 9 0;");
            x.pass(1);
            t.due("not finished", x.currentLetter(), 0);
            x.pass(1);
            t.due("finished", x.currentLetter(), -1);
            x.pass(1);
            t.due("another letter", x.currentLetter(), 1);
            x.discard(1);
            t.due("discarded", x.currentLetter(), -1);
        });
        all.test(0, "at first there is none", t -> {
            PenOffice x = new PenOffice();
            t.due("at first", x.currentLetter(), -1);
            x.pass(1);
            t.due("after a minute of a hand-over", x.currentLetter(), -1);
            t.due("after a setup", Boundaries.plain("letter a 2 0 9 0;").currentLetter(), -1);
        });
        all.test(0, "The pen has full ink at first", t -> {
            t.due("ink for 1 minute", Boundaries.withSettings("0 0 1 9 1 1 0", "").ink(), 1);
            t.due("ink for 99 minutes", Boundaries.withSettings("0 0 99 9 1 1 0", "").ink(), 99);
            t.due("of a new object", new PenOffice().ink(), 10);
            PenOffice x = Boundaries.withSettings("0 0 5 9 1 1 0", "letter a 9 0 9 0;");
            x.pass(5);
            Testing.type(x, Boundaries.PLAIN);
            x.load();
            t.due("of a setup during a refill", x.ink() + " " + x.refillLeft(), "99 0");
        });
    }

    private static void minutes(Sentences all) {
        all.test(0, "The simulation of one minute consists of these steps, and the current minute increases by 1 at its end", t -> {
            PenOffice x = Boundaries.withSettings("0 2 1 2 1 5 0", "letter a 1 1 9 0;letter b 1 1 9 0;");
            // Idle, a hand-over of 2, written, a refill of 2, a hand-over of 2, written, a refill of 2, idle.
            int[] idle = {1, 1, 1, 1, 1, 1, 1, 1, 1, 1, 1, 2};
            int[] written = {0, 0, 0, 1, 1, 1, 1, 1, 2, 2, 2, 2};
            for (int minute = 0; minute < idle.length; minute++) {
                x.pass(1);
                t.due("minute, idle and written minutes", x.minute() + " " + x.idleMinutes() + " " + x.writtenMinutes(),
                    (minute + 1) + " " + idle[minute] + " " + written[minute]);
            }
        });
        all.test(0, "If no letter is ready, the minute is idle", t -> {
            PenOffice x = Boundaries.plain("");
            x.pass(1);
            t.due("without letters", x.idleMinutes(), 1);
            x.addLetter(0, 1, 1, 9, 0);
            x.pass(1);
            t.due("before the arrival", x.idleMinutes(), 2);
            x.pass(1);
            t.due("at the arrival", x.idleMinutes(), 2);
            x.pass(1);
            t.due("when all letters are finished", x.idleMinutes(), 3);
        });
    }

    private static void refills(Sentences all) {
        all.test(0, "If a refill is going on, this minute belongs to the refill, and nothing else happens", t -> {
            PenOffice x = Boundaries.withSettings("1 2 1 3 1 5 4", "letter a 5 0 99 0;");
            x.pass(3);
            x.addLetter(1, 1, 0, 99, 9);
            for (int left = 2; left >= 0; left--) {
                x.pass(1);
                t.due("with " + left + " minutes left", x.refillLeft() + " " + x.holder() + " " + x.handOvers() + " " + x.remaining(0) + " "
                    + x.remaining(1) + " " + x.writtenMinutes() + " " + x.idleMinutes() + " " + x.blots() + " " + x.currentLetter() + " "
                    + x.handOverLeft(), left + " 0 1 4 1 1 0 0 0 0");
            }
            x.pass(1);
            t.due("after the refill", x.holder() + " " + x.handOverLeft(), "1 1");
            PenOffice y = Boundaries.withSettings("0 0 1 1 1 5 0", "letter a 1 0 99 0;");
            y.pass(2);
            t.due("a refill of 1 minute, without letters", y.idleMinutes(), 0);
            y.pass(1);
            t.due("behind it", y.idleMinutes(), 1);
        });
        all.test(0, "At the end of the last minute of a refill the ink is full", t -> {
            PenOffice x = Boundaries.withSettings("0 0 7 3 1 5 0", "letter a 30 0 99 0;");
            x.pass(7);
            t.due("at the start of the refill", x.ink(), 0);
            x.pass(2);
            t.due("before its last minute", x.ink() + " " + x.refillLeft(), "0 1");
            x.pass(1);
            t.due("after its last minute", x.ink() + " " + x.refillLeft(), "7 0");
            PenOffice y = Boundaries.withSettings("0 0 99 1 1 5 0", "letter a 30 0 99 0;".repeat(4));
            y.pass(99);
            t.due("the greatest ink is used", y.ink() + " " + y.refillLeft(), "0 1");
            y.pass(1);
            t.due("a refill of 1 minute", y.ink() + " " + y.refillLeft(), "99 0");
        });
        all.test(0, "If the ink is 0 after step 5, it becomes full at once if the refill time is 0", t -> {
            PenOffice x = Boundaries.withSettings("0 0 2 0 1 5 0", "letter a 30 0 99 0;");
            x.pass(1);
            t.due("ink for one minute more", x.ink() + " " + x.refillLeft(), "1 0");
            x.pass(1);
            t.due("full at once", x.ink() + " " + x.refillLeft(), "2 0");
            x.pass(1);
            t.due("no minute is lost", x.ink() + " " + x.writtenMinutes(), "1 3");
            PenOffice y = Boundaries.withSettings("0 0 1 0 1 5 0", "letter a 3 0 99 0;");
            y.pass(3);
            t.due("full at the end of each minute", y.ink() + " " + y.finishMinute(0), "1 3");
        });
        all.test(0, "otherwise a refill of this length begins with the next minute", t -> {
            for (int length : new int[] {1, 9}) {
                PenOffice x = Boundaries.withSettings("0 0 2 " + length + " 1 5 0", "letter a 30 0 99 0;");
                x.pass(1);
                t.due("with ink for one minute", x.refillLeft(), 0);
                x.pass(1);
                t.due("before the refill", x.refillLeft() + " " + x.writtenMinutes(), length + " 2");
                x.pass(length);
                t.due("after the refill", x.refillLeft() + " " + x.writtenMinutes(), "0 2");
                x.pass(1);
                t.due("behind it", x.writtenMinutes(), 3);
            }
        });
    }

    private static void handOvers(Sentences all) {
        all.test(0, "Otherwise, if a hand-over is going on, this minute belongs to the hand-over, and nothing else happens", t -> {
            PenOffice x = Boundaries.withSettings("0 3 99 0 1 5 0", "letter a 1 0 99 0;");
            x.pass(1);
            x.discard(0);
            x.addLetter(1, 1, 3, 99, 0);
            for (int left = 1; left >= 0; left--) {
                x.pass(1);
                t.due("with " + left + " minutes left", x.handOverLeft() + " " + x.holder() + " " + x.handOvers() + " " + x.idleMinutes() + " "
                    + x.writtenMinutes(), left + " 0 1 0 0");
            }
            x.pass(1);
            t.due("after the hand-over", x.idleMinutes() + " " + x.holder(), "1 0");
            x.pass(1);
            t.due("the next hand-over", x.handOverLeft() + " " + x.holder(), "2 1");
        });
        all.test(0, "If the clerk of the selected letter is not the holder, this clerk becomes the holder", t -> {
            PenOffice x = Boundaries.plain("letter b 1 0 9 0;letter b 1 0 9 0;letter a 1 0 9 0;");
            x.pass(1);
            t.due("when no clerk has the pen", x.holder() + " " + x.handOvers(), "1 1");
            x.pass(1);
            t.due("when this clerk has it", x.holder() + " " + x.handOvers(), "1 1");
            x.pass(1);
            t.due("when another clerk has it", x.holder() + " " + x.handOvers(), "0 2");
        });
        all.test(0, "If the hand-over time is greater than 0, a hand-over of this length begins", t -> {
            for (int length = 0; length <= 5; length++) {
                PenOffice x = Boundaries.withSettings("0 " + length + " 99 0 1 5 0", "letter a 1 0 99 0;");
                if (length > 0) {
                    x.pass(length);
                }
                t.due("after " + length + " minutes", x.writtenMinutes() + " " + x.handOverLeft(), "0 0");
                x.pass(1);
                t.due("one minute later", x.finishMinute(0), length + 1);
            }
        });
        all.test(0, "the present minute is its first minute, and nothing else happens", t -> {
            for (int length : new int[] {1, 5}) {
                PenOffice x = Boundaries.withSettings("0 " + length + " 99 0 1 5 0", "letter a 1 0 99 0;");
                x.pass(1);
                t.due("after the first minute of " + length, x.handOverLeft() + " " + x.holder() + " " + x.remaining(0) + " " + x.writtenMinutes() + " "
                    + x.idleMinutes() + " " + x.ink() + " " + x.lastLetter(), (length - 1) + " 0 1 0 0 99 -1");
            }
        });
        all.test(0, "After the hand-over a letter is selected anew", t -> {
            PenOffice x = Boundaries.withSettings("1 1 99 0 1 5 0", "letter a 5 0 99 0;");
            x.pass(1);
            x.addLetter(1, 4, 0, 99, 0);
            x.pass(1);
            t.due("a letter that came in the meantime", x.holder() + " " + x.handOvers() + " " + x.writtenMinutes(), "1 2 0");
            x.discard(1);
            x.discard(0);
            x.pass(1);
            t.due("no letter is ready any more", x.idleMinutes(), 1);
        });
    }

    private static void writing(Sentences all) {
        all.test(0, "If there is a current letter and it is a different letter, the remaining time of the old current letter increases by the blot,"
            + " but not above its length", t -> {
            int[] rest = {0, 7, 7, 7, 7, 7, 6, 0};
            for (int written = 1; written <= 7; written++) {
                PenOffice x = Boundaries.withSettings("2 0 99 0 1 5 5", "letter a 7 0 50 0;");
                x.pass(written);
                x.addLetter(1, 1, 0, 1, 0);
                x.pass(1);
                t.due("after " + written + " of 7 minutes", x.remaining(0) + " " + x.blots(), rest[written] + (written < 7 ? " 1" : " 0"));
            }
            PenOffice y = Boundaries.withSettings("2 0 99 0 1 5 5", "letter a 7 0 50 0;");
            y.pass(1);
            t.due("when there is no current letter", y.blots(), 0);
            y.pass(1);
            t.due("when it is the same letter", y.remaining(0) + " " + y.blots(), "5 0");
            PenOffice z = Boundaries.withSettings("2 0 99 0 1 5 1", "letter a 7 0 50 0;");
            z.pass(1);
            z.addLetter(1, 1, 0, 1, 0);
            z.pass(1);
            t.due("up to its length just", z.remaining(0), 7);
        });
        all.test(0, "this counts as a blot even if the remaining time does not change", t -> {
            PenOffice x = Boundaries.withSettings("2 0 99 0 1 5 0", "letter a 7 0 50 0;");
            x.pass(3);
            x.addLetter(1, 1, 0, 1, 0);
            x.pass(1);
            t.due("a blot of 0 minutes", x.remaining(0) + " " + x.blots(), "4 1");
        });
        all.test(0, "The selected letter becomes the current letter, its remaining time decreases by 1, and the ink decreases by 1", t -> {
            PenOffice x = Boundaries.withSettings("0 0 99 0 1 5 0", "letter b 30 0 50 0;");
            x.pass(1);
            t.due("from the greatest numbers", x.currentLetter() + " " + x.remaining(0) + " " + x.ink(), "0 29 98");
            PenOffice y = Boundaries.withSettings("0 0 2 9 1 5 0", "letter b 2 0 50 0;");
            y.pass(1);
            t.due("from 2 to 1", y.currentLetter() + " " + y.remaining(0) + " " + y.ink(), "0 1 1");
            y.pass(1);
            t.due("from 1 to 0", y.remaining(0) + " " + y.ink(), "0 0");
        });
        all.test(0, "If the remaining time becomes 0, the letter is finished, its finish minute is the current minute plus 1,"
            + " and there is no current letter any more", t -> {
            PenOffice x = Boundaries.plain("letter a 2 0 9 0;");
            x.pass(1);
            t.due("with a minute left", x.finishMinute(0) + " " + x.currentLetter() + " " + x.finishedCount(), "-1 0 0");
            x.pass(1);
            t.due("with nothing left", x.finishMinute(0) + " " + x.currentLetter() + " " + x.finishedCount(), "2 -1 1");
            PenOffice y = Boundaries.plain("");
            Testing.passMany(y, 1999);
            y.addLetter(0, 1, 0, 999, 0);
            y.pass(1);
            t.due("in the last minute of all", y.finishMinute(0), 2000);
            PenOffice z = Boundaries.plain("letter a 1 0 9 0;");
            z.pass(1);
            t.due("in the first minute of all", z.finishMinute(0) + " " + z.currentLetter(), "1 -1");
        });
    }

    private static void ties(Sentences all) {
        all.test(0, "a tie is always won by the letter with the lowest number", t -> {
            PenOffice x = Boundaries.plain("letter a 2 9 5 5;" + "letter b 2 0 5 5;".repeat(10) + "letter a 2 0 5 5;");
            for (int policy = 0; policy < 5; policy++) {
                t.due("by policy " + policy, x.selectedBy(policy), 1);
            }
            PenOffice y = Boundaries.plain("letter a 3 0 6 4;letter b 2 0 5 5;letter b 2 0 5 5;");
            for (int policy = 1; policy < 4; policy++) {
                t.due("among the last two, by policy " + policy, y.selectedBy(policy), 1);
            }
            PenOffice z = Boundaries.plain("letter a 1 0 5 5;letter a 4 0 50 5;letter b 2 0 6 5;letter b 2 0 6 5;");
            z.pass(1);
            t.due("behind the last letter, by policy 3", z.selectedBy(3), 1);
            t.due("behind the last letter, by policy 1", z.selectedBy(1), 2);
            t.due("behind the last letter, by policy 2", z.selectedBy(2), 2);
        });
    }

    private static void policies0to2(Sentences all) {
        all.test(0, "policy 0 (first come): the current letter if there is one, otherwise the ready letter with the least arrival minute", t -> {
            PenOffice x = Boundaries.plain("letter a 5 3 50 0;letter a 5 2 40 0;letter a 5 2 50 0;letter a 5 4 50 0;letter a 5 1 60 0;");
            t.due("no letter is ready", x.selectedBy(0), -1);
            x.setPolicy(2);
            x.pass(3);
            t.due("the current letter came later", x.currentLetter() + " " + x.selectedBy(0), "1 1");
            x.discard(1);
            t.due("without a current letter", x.selectedBy(0), 4);
            x.discard(4);
            t.due("the least arrival minute", x.selectedBy(0), 2);
            x.discard(2);
            t.due("the letter that has just arrived", x.selectedBy(0), 0);
            x.discard(0);
            t.due("a letter that arrives in a minute", x.selectedBy(0), -1);
        });
        all.test(0, "policy 1 (shortest remaining): the ready letter with the least remaining time, but the current letter if its remaining time is"
            + " not greater", t -> {
            PenOffice x = Boundaries.plain("letter a 3 0 50 0;letter a 4 0 40 0;letter a 1 2 50 0;");
            t.due("without a current letter", x.selectedBy(1), 0);
            x.setPolicy(2);
            x.pass(1);
            t.due("the current letter has as much left", x.currentLetter() + " " + x.remaining(1) + " " + x.selectedBy(1), "1 3 1");
            x.extend(1, 1);
            t.due("the current letter has a minute more left", x.selectedBy(1), 0);
            x.extend(0, 2);
            t.due("the current letter has a minute less left", x.selectedBy(1), 1);
            x.pass(1);
            t.due("a shorter letter has arrived", x.selectedBy(1), 2);
        });
        all.test(0, "policy 2 (earliest deadline): the ready letter with the least deadline, but the current letter if its deadline is not greater", t -> {
            PenOffice x = Boundaries.plain("letter a 3 0 50 0;letter a 4 0 40 0;letter a 1 2 1 0;");
            t.due("without a current letter", x.selectedBy(2), 1);
            x.setPolicy(2);
            x.pass(1);
            x.setDeadline(1, 50);
            t.due("the current letter has the same deadline", x.currentLetter() + " " + x.selectedBy(2), "1 1");
            x.setDeadline(1, 51);
            t.due("the current letter has a deadline one greater", x.selectedBy(2), 0);
            x.setDeadline(0, 999);
            x.setDeadline(1, 998);
            t.due("the current letter has a deadline one less", x.selectedBy(2), 1);
            x.pass(1);
            t.due("a letter with deadline 1 has arrived", x.selectedBy(2), 2);
        });
    }

    private static void policy3(Sentences all) {
        all.test(0, "policy 3 (priority): the current letter if there is one, otherwise the ready letter with the greatest effective priority", t -> {
            PenOffice x = Boundaries.plain("letter a 2 0 50 0;letter a 4 0 40 8;letter a 1 0 1 9;letter a 1 9 1 9;");
            t.due("the greatest priority", x.selectedBy(3), 2);
            x.setPriority(2, 8);
            t.due("the same priority", x.selectedBy(3), 1);
            x.setPriority(2, 7);
            t.due("one less", x.selectedBy(3), 1);
            x.pass(1);
            x.setPriority(2, 9);
            t.due("the current letter with priority 0", x.currentLetter() + " " + x.selectedBy(3), "0 0");
            x.pass(1);
            t.due("when it is finished", x.selectedBy(3), 2);
        });
        all.test(0, "The effective priority is the priority plus a bonus", t -> {
            PenOffice x = Boundaries.withSettings("0 0 99 0 1 1 0", "letter a 30 0 50 0;letter a 4 0 40 9;letter a 1 0 1 0;");
            t.due("no bonus", x.effectivePriority(1) + " " + x.effectivePriority(2), "9 0");
            x.pass(1);
            t.due("a bonus of 1", x.effectivePriority(1) + " " + x.effectivePriority(2), "10 1");
            t.due("no bonus of a letter that is written", x.effectivePriority(0), 0);
        });
        all.test(0, "the bonus is the waiting time divided by the aging time, rounded down", t -> {
            PenOffice x = Boundaries.withSettings("0 0 99 0 1 20 0", "letter a 30 0 50 0;letter a 30 0 40 9;letter b 1 0 1 4;");
            x.pass(19);
            t.due("19 of 20", x.effectivePriority(2), 4);
            x.pass(1);
            t.due("20 of 20", x.effectivePriority(2), 5);
            x.pass(19);
            t.due("39 of 20", x.effectivePriority(2), 5);
            x.pass(1);
            t.due("40 of 20", x.effectivePriority(2), 6);
            PenOffice y = Boundaries.withSettings("3 0 99 0 1 3 0", "letter a 5 0 50 9;letter a 4 0 40 3;letter b 1 0 1 4;");
            y.pass(5);
            t.due("the same bonus of both", y.selectedLetter(), 2);
            PenOffice z = Boundaries.withSettings("3 0 99 0 1 3 0", "letter a 6 0 50 9;letter a 4 0 40 3;letter b 1 4 1 4;");
            z.pass(5);
            z.discard(0);
            t.due("a bonus of 1 against none", z.selectedLetter(), 1);
        });
    }

    private static void policy4(Sentences all) {
        all.test(0, "policy 4 (round robin): the current letter if there is one and the run is less than the quantum", t -> {
            for (int quantum : new int[] {2, 9}) {
                PenOffice x = Boundaries.withSettings("4 0 99 0 " + quantum + " 5 0", "letter a 30 0 50 0;letter a 1 0 40 0;");
                x.pass(quantum - 1);
                t.due("with a run of one less than " + quantum, x.selectedLetter(), 0);
                x.pass(1);
                t.due("with a run of " + quantum, x.selectedLetter(), 1);
            }
            PenOffice y = Boundaries.withSettings("4 0 99 0 1 5 0", "letter a 30 0 50 0;letter a 1 0 40 0;");
            t.due("without a current letter", y.selectedLetter(), 0);
            y.pass(1);
            t.due("with a quantum of 1", y.selectedLetter(), 1);
            PenOffice z = Boundaries.withSettings("4 0 99 0 9 5 0", "letter a 1 0 50 0;letter a 1 0 40 0;");
            z.pass(1);
            t.due("when the current letter is finished", z.selectedLetter(), 1);
        });
        all.test(0, "otherwise the first ready letter among the letters that follow the last letter by ascending numbers, cyclically, with the last letter"
            + " itself at the end of this order", t -> {
            PenOffice x = Boundaries.withSettings("2 0 99 0 1 5 0", "letter a 5 0 50 0;".repeat(11) + "letter b 5 0 1 0;");
            x.pass(1);
            for (int next = 0; next < 11; next++) {
                t.due("behind letter 11, with " + next + " letters discarded", x.lastLetter() + " " + x.selectedBy(4), "11 " + next);
                x.discard(next);
            }
            t.due("the last letter itself", x.selectedBy(4), 11);
            x.discard(11);
            t.due("no letter is ready", x.selectedBy(4), -1);
            PenOffice y = Boundaries.withSettings("2 0 99 0 1 5 0", "letter a 5 0 50 0;".repeat(5) + "letter a 5 0 1 0;" + "letter a 5 2 50 0;".repeat(6));
            y.pass(1);
            t.due("when all that follow have not arrived", y.lastLetter() + " " + y.selectedBy(4), "5 0");
            y.pass(1);
            t.due("when they have arrived", y.selectedBy(4), 6);
            y.discard(5);
            t.due("behind a discarded letter", y.selectedBy(4), 6);
            PenOffice z = Boundaries.withSettings("0 0 99 0 1 5 0", "letter a 5 0 50 0;");
            z.pass(1);
            t.due("the only letter", z.selectedBy(4), 0);
        });
        all.test(0, "If there is no last letter, the order is that of the numbers", t -> {
            PenOffice x = Boundaries.withSettings("4 0 99 0 1 5 0", "letter a 5 2 50 0;letter a 5 1 50 0;letter a 5 1 50 0;");
            t.due("no letter is ready", x.selectedLetter(), -1);
            x.pass(1);
            t.due("letter 0 has not arrived", x.lastLetter() + " " + x.selectedLetter(), "-1 1");
            PenOffice y = Boundaries.withSettings("4 0 99 0 1 5 0", "letter a 5 0 50 0;".repeat(12));
            t.due("all are ready", y.selectedLetter(), 0);
            for (int i = 0; i < 11; i++) {
                y.discard(i);
            }
            t.due("only letter 11 is ready", y.selectedLetter(), 11);
        });
    }

    private static void runs(Sentences all) {
        all.test(0, "The last letter is the letter that was written last, finished or not", t -> {
            PenOffice x = Boundaries.withSettings("0 1 2 1 1 5 0", "letter a 2 0 50 0;letter b 5 0 50 0;");
            int[] last = {-1, 0, 0, 0, 0, 1, 1, 1, 1, 1, 1, 1};
            // Hand-over, 0, 0 (finished), refill, hand-over, 1, 1, refill, 1, 1, refill, 1 (finished).
            for (int minute = 0; minute < last.length; minute++) {
                x.pass(1);
                t.due("in minute " + minute, x.lastLetter(), last[minute]);
            }
            t.due("finished", x.remaining(1) + " " + x.lastLetter(), "0 1");
            x.addLetter(0, 9, 0, 50, 0);
            x.pass(2);
            x.discard(2);
            t.due("discarded", x.lastLetter(), 2);
        });
        all.test(0, "at first there is none (2)", t -> {
            PenOffice x = new PenOffice();
            t.due("at first", x.lastLetter(), -1);
            x.pass(1);
            t.due("after a minute of a hand-over", x.lastLetter(), -1);
            x.discard(0);
            t.due("after a letter was discarded that was never written", x.lastLetter(), -1);
            PenOffice y = Boundaries.plain("letter a 2 2 9 0;");
            y.pass(2);
            t.due("after idle minutes", y.lastLetter(), -1);
        });
        all.test(0, "The run is the number of minutes in which the last letter was written since another letter was written, under all policies", t -> {
            for (int policy = 0; policy < 4; policy++) {
                PenOffice x = Boundaries.withSettings(policy + " 0 99 0 1 5 0", "letter a 30 0 50 0;");
                x.pass(1);
                t.due("the first minute under policy " + policy, x.runLength(), 1);
                x.pass(29);
                t.due("30 minutes under policy " + policy, x.runLength(), 30);
            }
            PenOffice y = Boundaries.withSettings("1 0 99 0 9 5 0", "letter a 9 0 50 0;");
            y.pass(2);
            y.setPolicy(4);
            y.pass(1);
            t.due("under two policies", y.runLength(), 3);
            y.addLetter(1, 1, 0, 1, 0);
            y.setPolicy(1);
            y.pass(1);
            t.due("of another letter", y.lastLetter() + " " + y.runLength(), "1 1");
            y.pass(1);
            t.due("of the first letter again", y.lastLetter() + " " + y.runLength(), "0 1");
        });
        all.test(0, "other minutes in between, and the end of the last letter, do not matter", t -> {
            PenOffice x = Boundaries.withSettings("1 2 2 3 9 5 5", "letter a 4 0 50 0;");
            x.pass(4);
            t.due("before a refill", x.runLength() + " " + x.refillLeft(), "2 3");
            x.pass(3);
            t.due("after a refill", x.runLength(), 2);
            x.addLetter(1, 1, 0, 1, 0);
            x.pass(1);
            t.due("in a hand-over", x.runLength() + " " + x.holder(), "2 1");
            x.discard(1);
            x.pass(3);
            t.due("after two hand-overs", x.runLength() + " " + x.holder(), "2 0");
            x.pass(1);
            t.due("one minute more", x.runLength() + " " + x.blots(), "3 0");
            x.pass(1);
            t.due("at the end", x.runLength() + " " + x.finishMinute(0), "4 13");
            x.pass(10);
            t.due("after idle minutes", x.runLength() + " " + x.lastLetter(), "4 0");
            PenOffice y = Boundaries.plain("letter a 4 0 50 0;");
            y.pass(2);
            y.discard(0);
            t.due("after the letter was discarded", y.runLength(), 2);
        });
        all.test(0, "When policy 4 selects the last letter although the run is at least the quantum, and the letter is then written, the run starts anew"
            + " with 1", t -> {
            PenOffice x = Boundaries.withSettings("4 2 99 0 2 5 5", "letter a 9 0 50 0;");
            x.pass(3);
            t.due("less than the quantum", x.runLength(), 1);
            x.pass(1);
            t.due("up to the quantum", x.runLength(), 2);
            x.addLetter(1, 1, 0, 1, 0);
            x.pass(1);
            x.discard(1);
            x.pass(3);
            t.due("selected, but not yet written for a hand-over", x.runLength() + " " + x.holder(), "2 0");
            x.pass(1);
            t.due("then written", x.runLength() + " " + x.blots(), "1 0");
            x.setPolicy(0);
            x.pass(2);
            t.due("another policy", x.runLength(), 3);
            x.setPolicy(4);
            x.pass(1);
            t.due("more than the quantum", x.runLength(), 1);
            x.pass(1);
            t.due("less than the quantum again", x.runLength(), 2);
        });
    }
}
