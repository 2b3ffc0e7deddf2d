/** Promises 20 to 35: a test for each sentence that names a boundary. */
final class BoundariesOf20to35 {
    /** A call that is asked of a letter. */
    interface OfLetter {
        Object of(PenOffice x, int letter);
    }

    private BoundariesOf20to35() {
    }

    static void addTo(Sentences all) {
        // What letters 0, 10 and 11 of the office "twelve" answer.
        letterCalls(all, 20, PenOffice::clerkOf, 0, 0, 1);
        letterCalls(all, 21, PenOffice::length, 1, 11, 12);
        letterCalls(all, 22, PenOffice::arrival, 0, 10, 0);
        letterCalls(all, 23, PenOffice::deadline, 100, 110, 111);
        letterCalls(all, 24, PenOffice::priority, 0, 9, 1);
        letterCalls(all, 25, PenOffice::remaining, 0, 11, 12);
        letterCalls(all, 26, PenOffice::finishMinute, 1, -1, -1);
        letterCalls(all, 27, PenOffice::waitingTime, 0, 0, 1);
        letterCalls(all, 28, PenOffice::effectivePriority, 0, 9, 2);
        letterCalls(all, 29, PenOffice::isReady, false, false, true);
        numbersOfLetters(all);
        remainingAndFinish(all);
        waiting(all);
        ready(all);
        selected(all);
        work(all);
        all.withoutBoundary(20, "Returns the clerk of a letter");
        all.withoutBoundary(21, "Returns the length of a letter");
        all.withoutBoundary(22, "Returns the arrival minute of a letter");
        all.withoutBoundary(23, "Returns the deadline of a letter");
        all.withoutBoundary(24, "Returns the priority of a letter");
        all.withoutBoundary(25, "Returns the remaining time of a letter");
        all.withoutBoundary(26, "Returns the finish minute of a letter");
        all.withoutBoundary(27, "Returns the waiting time of a letter");
        all.withoutBoundary(28, "Returns the effective priority of a letter");
        all.withoutBoundary(29, "Tells whether a letter is ready");
        all.withoutBoundary(30, "Counts the ready letters");
        all.withoutBoundary(31, "Returns the letter that would be selected now");
        all.withoutBoundary(32, "Returns the letter that a policy would select now");
        all.withoutBoundary(33, "Counts the letters of a clerk that are not finished");
        all.withoutBoundary(34, "Returns the work of a clerk");
        all.withoutBoundary(35, "Returns the busiest clerk");
    }

    /** Twelve letters after a minute in which letter 0 was written; letter 11 came with it, and the others later. */
    private static PenOffice twelve() {
        StringBuilder text = new StringBuilder("office 0 0 99 0 2 1 0;clerk a;clerk b;");
        for (int i = 0; i < 12; i++) {
            text.append("letter ").append(i % 2 == 0 ? "a " : "b ").append(i + 1).append(' ').append(i < 11 ? i : 0).append(' ').append(100 + i)
                .append(' ').append(i < 11 ? i % 10 + i / 10 * 9 : 1).append(';');
        }
        PenOffice x = Testing.office(text.toString());
        x.pass(1);
        return x;
    }

    private static void letterCalls(Sentences all, int promise, OfLetter call, Object first, Object tenth, Object last) {
        all.test(promise, "letter: number of a letter", t -> {
            PenOffice x = twelve();
            t.due("letter 0", call.of(x, 0), first);
            t.due("letter 10", call.of(x, 10), tenth);
            t.due("letter 11", call.of(x, 11), last);
        });
        all.test(promise, "Throws IndexOutOfBoundsException if the letter does not exist", t -> {
            PenOffice x = twelve();
            for (int letter : Boundaries.outside(0, 11)) {
                t.refused("letter " + letter + " of 12", Testing.INDEX, () -> call.of(x, letter));
            }
            PenOffice y = new PenOffice();
            for (int letter : Boundaries.outside(0, 3)) {
                t.refused("letter " + letter + " of 4", Testing.INDEX, () -> call.of(y, letter));
            }
            y.addLetter(0, 1, 0, 1, 0);
            call.of(y, 4);
            y.undo();
            t.refused("letter 4, which was undone", Testing.INDEX, () -> call.of(y, 4));
            PenOffice z = Boundaries.plain("");
            t.refused("letter 0 of none", Testing.INDEX, () -> call.of(z, 0));
        });
    }

    private static void numbersOfLetters(Sentences all) {
        all.test(20, "Returns the number of the clerk", t -> {
            PenOffice x = Testing.office(Boundaries.SIX_CLERKS + "letter f 1 0 1 0;letter a 1 0 1 0;");
            t.due("the last and the first clerk", x.clerkOf(0) + " " + x.clerkOf(1), "5 0");
            x.addLetter(5, 1, 0, 1, 0);
            t.due("of addLetter", x.clerkOf(2), 5);
        });
        all.test(21, "Returns 1 to 30", t -> {
            PenOffice x = Boundaries.plain("letter a 1 0 9 0;letter a 30 0 9 0;");
            t.due("the least and the greatest", x.length(0) + " " + x.length(1), "1 30");
            x.pass(1);
            x.discard(1);
            t.due("of finished letters", x.length(0) + " " + x.length(1), "1 30");
            x.addLetter(0, 1, 0, 1, 0);
            x.extend(2, 29);
            t.due("of extend", x.length(2), 30);
            PenOffice y = Boundaries.withSettings("2 0 99 0 2 5 5", "letter a 30 0 9 0;");
            y.pass(1);
            y.addLetter(0, 1, 0, 1, 0);
            y.pass(1);
            t.due("after a blot", y.length(0) + " " + y.remaining(0), "30 30");
        });
        all.test(22, "Returns 0 to 2000", t -> {
            PenOffice x = Boundaries.plain("letter a 1 0 9 0;");
            Testing.passMany(x, 1001);
            x.addLetter(0, 1, 999, 9, 0);
            t.due("the least and the greatest", x.arrival(0) + " " + x.arrival(1), "0 2000");
        });
        all.test(23, "Returns 1 to 999", t -> {
            PenOffice x = Boundaries.plain("letter a 1 0 1 0;letter a 1 0 999 0;");
            t.due("the least and the greatest", x.deadline(0) + " " + x.deadline(1), "1 999");
            x.setDeadline(0, 999);
            x.setDeadline(1, 1);
            t.due("of setDeadline", x.deadline(0) + " " + x.deadline(1), "999 1");
        });
        all.test(24, "Returns 0 to 9", t -> {
            PenOffice x = Boundaries.plain("letter a 1 0 1 0;letter a 1 0 999 9;");
            t.due("the least and the greatest", x.priority(0) + " " + x.priority(1), "0 9");
            x.setPriority(0, 9);
            x.setPriority(1, 0);
            t.due("of setPriority", x.priority(0) + " " + x.priority(1), "9 0");
            PenOffice y = Boundaries.withSettings("0 0 99 0 2 1 0", "letter a 9 0 1 0;letter a 9 0 1 9;");
            y.pass(9);
            t.due("a bonus does not count", y.priority(1) + " " + y.effectivePriority(1), "9 18");
        });
    }

    private static void remainingAndFinish(Sentences all) {
        all.test(25, "Returns the remaining minutes", t -> {
            PenOffice x = Boundaries.plain("letter a 30 0 9 0;");
            for (int left = 30; left > 0; left--) {
                t.due("remaining", x.remaining(0), left);
                x.pass(1);
            }
            t.due("at the end", x.remaining(0), 0);
        });
        all.test(25, "0 if the letter is finished", t -> {
            PenOffice x = Boundaries.plain("letter a 1 0 9 0;letter a 30 0 9 0;");
            x.pass(1);
            t.due("written to its end", x.remaining(0), 0);
            x.discard(1);
            t.due("discarded", x.remaining(1), 0);
            x.pass(300);
            t.due("later", x.remaining(0) + " " + x.remaining(1), "0 0");
        });
        all.test(26, "Returns the minute", t -> {
            PenOffice x = Boundaries.plain("letter a 1 0 9 0;letter b 1 0 9 0;");
            x.discard(1);
            t.due("discarded at minute 0", x.finishMinute(1), 0);
            x.pass(1);
            t.due("written in minute 0", x.finishMinute(0), 1);
            Testing.passMany(x, 1998);
            x.addLetter(0, 1, 0, 9, 0);
            x.addLetter(0, 1, 1, 9, 0);
            x.pass(1);
            x.discard(3);
            t.due("written in minute 1999, and discarded at minute 2000", x.finishMinute(2) + " " + x.finishMinute(3), "2000 2000");
            t.due("of letters that were finished long before", x.finishMinute(0) + " " + x.finishMinute(1), "1 0");
        });
        all.test(26, "NONE if the letter is not finished", t -> {
            PenOffice x = Boundaries.plain("letter a 2 0 9 0;letter b 1 9 9 0;");
            t.due("before it is written", x.finishMinute(0) + " " + x.finishMinute(1), "-1 -1");
            x.pass(1);
            t.due("with one minute left", x.finishMinute(0), -1);
        });
    }

    private static void waiting(Sentences all) {
        all.test(27, "Returns the number of minutes from its arrival minute up to the current minute, or up to its finish minute if it is finished,"
            + " in which it was not written", t -> {
            PenOffice x = Boundaries.withSettings("0 2 2 1 2 5 5", "letter a 3 1 9 0;letter b 2 1 9 0;");
            // Idle, a hand-over of 2, letter 0 twice, a refill, letter 0, a hand-over of 2, letter 1, a refill, letter 1.
            int[] first = {0, 0, 1, 2, 2, 2, 3, 3, 3, 3, 3, 3, 3, 3};
            int[] second = {0, 0, 1, 2, 3, 4, 5, 6, 7, 8, 8, 9, 9, 9};
            for (int minute = 0; minute < first.length; minute++) {
                t.due("at minute " + minute, x.waitingTime(0) + " " + x.waitingTime(1), first[minute] + " " + second[minute]);
                x.pass(1);
            }
            PenOffice y = Boundaries.plain("letter a 30 0 9 0;letter b 2 0 9 0;");
            y.pass(7);
            y.discard(1);
            y.pass(7);
            t.due("of a discarded letter", y.waitingTime(1), 7);
        });
        all.test(27, "0 if it has not arrived", t -> {
            PenOffice x = Boundaries.plain("letter a 30 0 9 0;letter b 2 5 9 0;letter b 2 999 9 0;");
            t.due("long before", x.waitingTime(1) + " " + x.waitingTime(2), "0 0");
            x.pass(4);
            t.due("one minute before", x.waitingTime(1), 0);
            x.pass(1);
            t.due("at its arrival", x.waitingTime(1), 0);
            x.pass(1);
            t.due("one minute later", x.waitingTime(1) + " " + x.waitingTime(2), "1 0");
        });
        all.test(28, "Returns the effective priority, whatever the policy is", t -> {
            for (int policy = 0; policy < 5; policy++) {
                PenOffice x = Boundaries.withSettings("0 0 99 0 9 4 0", "letter a 30 0 9 0;letter b 2 0 9 9;letter b 2 9 9 1;");
                x.pass(3);
                x.setPolicy(policy);
                t.due("with a waiting time of 3", x.effectivePriority(1), 9);
                x.setPolicy(0);
                x.pass(1);
                x.setPolicy(policy);
                t.due("with a waiting time of 4", x.effectivePriority(1), 10);
                t.due("before its arrival", x.effectivePriority(2), 1);
                x.discard(1);
                x.setPolicy(0);
                x.pass(20);
                x.setPolicy(policy);
                t.due("finished", x.effectivePriority(1), 10);
            }
        });
    }

    private static void ready(Sentences all) {
        all.test(29, "Returns whether it is ready", t -> {
            PenOffice x = Boundaries.withSettings("0 1 99 0 9 4 0", "letter a 1 2 9 0;letter b 9 0 9 9;");
            t.due("at minute 0", x.isReady(0) + " " + x.isReady(1), "false true");
            x.pass(1);
            t.due("at minute 1, after a hand-over", x.isReady(0) + " " + x.isReady(1), "false true");
            x.pass(1);
            t.due("at minute 2", x.isReady(0) + " " + x.isReady(1), "true true");
            x.discard(1);
            x.pass(1);
            t.due("at minute 3, in a hand-over", x.isReady(0) + " " + x.isReady(1), "true false");
            x.pass(1);
            t.due("at minute 4", x.isReady(0) + " " + x.isReady(1), "false false");
        });
        all.test(30, "Returns the number of ready letters", t -> {
            t.due("without letters", Boundaries.plain("").readyCount(), 0);
            PenOffice x = Boundaries.plain("letter a 1 0 9 0;".repeat(12));
            for (int letters = 12; letters > 0; letters--) {
                t.due("ready letters", x.readyCount(), letters);
                x.pass(1);
            }
            t.due("at the end", x.readyCount(), 0);
            PenOffice y = Boundaries.plain("letter a 1 1 9 0;letter a 1 2 9 0;letter a 1 2 9 0;");
            t.due("before the first arrival", y.readyCount(), 0);
            y.pass(1);
            t.due("at the first arrival", y.readyCount(), 1);
            y.pass(1);
            t.due("at the second arrival", y.readyCount(), 2);
        });
    }

    private static void selected(Sentences all) {
        all.test(31, "Returns the letter that the policy selects at the current minute, whether a refill or a hand-over is going on or not", t -> {
            PenOffice x = Boundaries.withSettings("1 2 1 3 9 4 0", "letter a 4 0 9 0;letter b 5 0 9 0;");
            t.due("neither", x.selectedLetter(), 0);
            x.pass(1);
            t.due("a hand-over", x.handOverLeft() + " " + x.selectedLetter(), "1 0");
            x.addLetter(1, 2, 0, 9, 0);
            t.due("a hand-over to another clerk", x.selectedLetter(), 2);
            x.discard(2);
            x.pass(2);
            t.due("a refill", x.refillLeft() + " " + x.selectedLetter(), "3 0");
            x.addLetter(1, 2, 1, 9, 0);
            t.due("before an arrival", x.selectedLetter(), 0);
            x.pass(1);
            t.due("an arrival in a refill", x.refillLeft() + " " + x.selectedLetter(), "2 3");
        });
        all.test(31, "NONE if no letter is ready", t -> {
            t.due("without letters", Boundaries.plain("").selectedLetter(), -1);
            for (int policy = 0; policy < 5; policy++) {
                PenOffice x = Boundaries.withSettings(policy + " 0 1 9 9 4 0", "letter a 1 1 9 0;");
                t.due("before the arrival", x.selectedLetter(), -1);
                x.pass(1);
                t.due("at the arrival", x.selectedLetter(), 0);
                x.pass(1);
                t.due("in a refill, when all are finished", x.selectedLetter(), -1);
                x.pass(99);
                t.due("later", x.selectedLetter(), -1);
            }
        });
        all.test(32, "policy: 0 to 4", t -> {
            PenOffice x = Boundaries.withSettings("0 0 99 0 1 20 0",
                "letter a 3 0 9 0;letter a 9 3 9 0;letter b 9 1 9 0;letter b 2 2 9 0;letter a 9 2 1 0;letter a 9 3 9 9;");
            x.pass(3);
            int[] selected = {2, 3, 4, 5, 1};
            for (int policy = 0; policy < 5; policy++) {
                t.due("selectedBy(" + policy + ")", x.selectedBy(policy), selected[policy]);
            }
        });
        all.test(32, "Returns the number of the letter, as for selectedLetter()", t -> {
            PenOffice x = Boundaries.withSettings("4 2 3 2 2 3 1", "letter a 5 0 30 1;letter b 4 1 20 9;letter a 3 2 10 4;letter b 6 3 9 0;");
            for (int minute = 0; minute < 25; minute++) {
                for (int policy = 0; policy < 5; policy++) {
                    int selected = x.selectedBy(policy);
                    x.setPolicy(policy);
                    t.due("at minute " + minute + " by policy " + policy, x.selectedLetter(), selected);
                }
                x.setPolicy(4);
                x.pass(1);
            }
        });
        all.test(32, "NONE if no letter is ready", t -> {
            for (int policy = 0; policy < 5; policy++) {
                t.due("without letters", Boundaries.plain("").selectedBy(policy), -1);
                PenOffice x = Boundaries.plain("letter a 1 1 9 0;");
                t.due("before the arrival", x.selectedBy(policy), -1);
                x.pass(1);
                t.due("at the arrival", x.selectedBy(policy), 0);
                x.pass(1);
                t.due("finished", x.selectedBy(policy), -1);
            }
        });
        all.test(32, "Throws IllegalArgumentException if policy is out of range", t -> {
            PenOffice x = Boundaries.plain("letter a 9 0 9 0;");
            for (int policy : Boundaries.outside(0, 4)) {
                t.refused("selectedBy(" + policy + ")", Testing.ARGUMENT, () -> x.selectedBy(policy));
            }
            PenOffice y = Boundaries.plain("");
            t.refused("selectedBy(5) without letters", Testing.ARGUMENT, () -> y.selectedBy(5));
        });
    }

    private static PenOffice sixClerks() {
        return Testing.office(Boundaries.SIX_CLERKS + "letter a 2 0 9 0;letter f 30 999 9 0;letter f 30 999 9 0;letter c 3 0 9 0;letter d 1 0 9 0;");
    }

    private static void work(Sentences all) {
        all.test(33, "clerk: number of a clerk", t -> {
            PenOffice x = sixClerks();
            t.due("clerk 0", x.openLettersOf(0), 1);
            t.due("clerk 1", x.openLettersOf(1), 0);
            t.due("clerk 5", x.openLettersOf(5), 2);
        });
        all.test(33, "Returns the number of these letters, whether they have arrived or not", t -> {
            PenOffice x = Boundaries.plain("letter b 1 0 9 0;" + "letter b 1 999 9 0;".repeat(11));
            t.due("all letters", x.openLettersOf(1) + " " + x.openLettersOf(0), "12 0");
            x.pass(1);
            t.due("one is finished", x.openLettersOf(1), 11);
            Testing.passMany(x, 998);
            for (int letter = 1; letter < 12; letter++) {
                x.discard(letter);
                t.due("letter " + letter + " was discarded", x.openLettersOf(1), 11 - letter);
            }
        });
        all.test(33, "Throws IndexOutOfBoundsException if the clerk does not exist", t -> {
            PenOffice x = sixClerks();
            for (int clerk : Boundaries.outside(0, 5)) {
                t.refused("clerk " + clerk + " of six", Testing.INDEX, () -> x.openLettersOf(clerk));
            }
            PenOffice y = new PenOffice();
            t.refused("clerk 2 of two", Testing.INDEX, () -> y.openLettersOf(2));
        });
        all.test(34, "clerk: number of a clerk", t -> {
            PenOffice x = sixClerks();
            t.due("clerk 0", x.workOf(0), 2);
            t.due("clerk 1", x.workOf(1), 0);
            t.due("clerk 5", x.workOf(5), 60);
        });
        all.test(34, "Returns the sum of the remaining times of all letters of the clerk", t -> {
            PenOffice x = Boundaries.plain("letter b 30 999 9 0;".repeat(11) + "letter b 30 0 9 0;");
            t.due("the greatest sum", x.workOf(1) + " " + x.workOf(0), "360 0");
            x.pass(29);
            t.due("after 29 minutes", x.workOf(1), 331);
            x.pass(1);
            t.due("when a letter is finished", x.workOf(1), 330);
        });
        all.test(34, "Throws IndexOutOfBoundsException if the clerk does not exist", t -> {
            PenOffice x = sixClerks();
            for (int clerk : Boundaries.outside(0, 5)) {
                t.refused("clerk " + clerk + " of six", Testing.INDEX, () -> x.workOf(clerk));
            }
            PenOffice y = new PenOffice();
            t.refused("clerk 2 of two", Testing.INDEX, () -> y.workOf(2));
        });
        all.test(35, "Returns the clerk with the greatest result of workOf()", t -> {
            t.due("the last clerk", sixClerks().busiestClerk(), 5);
            PenOffice x = Boundaries.plain("letter a 4 0 9 0;letter b 3 0 9 0;");
            t.due("the first clerk", x.busiestClerk(), 0);
            x.pass(2);
            t.due("after two minutes", x.busiestClerk(), 1);
        });
        all.test(35, "the lowest number wins a tie", t -> {
            t.due("without letters", Testing.office(Boundaries.SIX_CLERKS).busiestClerk(), 0);
            PenOffice x = Testing.office(Boundaries.SIX_CLERKS + "letter f 3 0 9 0;letter b 2 0 9 0;letter e 3 0 9 0;letter a 1 0 9 0;letter b 1 0 9 0;");
            t.due("clerks 1, 4 and 5", x.busiestClerk(), 1);
            PenOffice y = Boundaries.plain("letter b 3 0 9 0;letter a 3 0 9 0;");
            t.due("clerks 0 and 1", y.busiestClerk(), 0);
            y.pass(6);
            t.due("when all letters are finished", y.busiestClerk(), 0);
        });
    }
}
