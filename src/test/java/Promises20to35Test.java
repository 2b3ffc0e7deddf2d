/** Promises 20 to 35: what the office tells of its letters, selection by the five policies, and the work of the clerks. */
public final class Promises20to35Test {
    private static final Testing T = new Testing("Promises20to35Test");

    public static void main(String[] args) {
        promises20to26firstOffice();
        promises20to29wrongLetters();
        promise27waitingTime();
        promise28effectivePriority();
        promises29and30ready();
        promise32atTheStart();
        promise32withACurrentLetter();
        promise32arrivals();
        promise32roundRobin();
        promise32roundRobinWithoutCurrent();
        promise32aging();
        promise32wrongPolicies();
        promise31selectedLetter();
        promises33to35clerks();
        promises30to37afterUndo();
        promises30to37ofTwelve();
        T.end();
    }

    private static void promises20to26firstOffice() {
        PenOffice x = new PenOffice();
        int[] clerks = {0, 1, 0, 1};
        int[] lengths = {5, 2, 3, 4};
        int[] deadlines = {9, 6, 20, 12};
        int[] priorities = {2, 5, 1, 7};
        int[] finishes = {6, 9, 13, 20};
        int[] waits = {1, 6, 8, 13};
        for (int i = 0; i < 4; i++) {
            T.due("20 clerkOf " + i, x.clerkOf(i), clerks[i]);
            T.due("21 length " + i, x.length(i), lengths[i]);
            T.due("22 arrival " + i, x.arrival(i), i);
            T.due("23 deadline " + i, x.deadline(i), deadlines[i]);
            T.due("24 priority " + i, x.priority(i), priorities[i]);
            T.due("25 remaining " + i, x.remaining(i), lengths[i]);
            T.due("26 finishMinute " + i, x.finishMinute(i), -1);
            T.due("27 waitingTime " + i, x.waitingTime(i), 0);
        }
        x.pass(4);
        T.due("25 remaining 0 at minute 4", x.remaining(0), 2);
        T.due("26 finishMinute 0 at minute 4", x.finishMinute(0), -1);
        T.due("21 length 0 at minute 4", x.length(0), 5);
        x.pass(26);
        for (int i = 0; i < 4; i++) {
            T.due("20 clerkOf " + i + " finished", x.clerkOf(i), clerks[i]);
            T.due("21 length " + i + " finished", x.length(i), lengths[i]);
            T.due("22 arrival " + i + " finished", x.arrival(i), i);
            T.due("25 remaining " + i + " finished", x.remaining(i), 0);
            T.due("26 finishMinute " + i + " finished", x.finishMinute(i), finishes[i]);
            T.due("27 waitingTime " + i + " finished", x.waitingTime(i), waits[i]);
        }
        Testing.passMany(x, 1001);
        x.addLetter(1, 30, 969, 999, 9);
        T.due("22 the greatest arrival", x.arrival(4), 2000);
        T.due("23 the greatest deadline", x.deadline(4), 999);
        T.due("21 the greatest length", x.length(4), 30);
        T.due("20 its clerk", x.clerkOf(4), 1);
    }

    private static void promises20to29wrongLetters() {
        PenOffice x = new PenOffice();
        for (int letter : new int[] {-1, 4, 12, Integer.MIN_VALUE, Integer.MAX_VALUE}) {
            Class<IndexOutOfBoundsException> index = IndexOutOfBoundsException.class;
            T.refused("20 clerkOf " + letter, index, () -> x.clerkOf(letter));
            T.refused("21 length " + letter, index, () -> x.length(letter));
            T.refused("22 arrival " + letter, index, () -> x.arrival(letter));
            T.refused("23 deadline " + letter, index, () -> x.deadline(letter));
            T.refused("24 priority " + letter, index, () -> x.priority(letter));
            T.refused("25 remaining " + letter, index, () -> x.remaining(letter));
            T.refused("26 finishMinute " + letter, index, () -> x.finishMinute(letter));
            T.refused("27 waitingTime " + letter, index, () -> x.waitingTime(letter));
            T.refused("28 effectivePriority " + letter, index, () -> x.effectivePriority(letter));
            T.refused("29 isReady " + letter, index, () -> x.isReady(letter));
        }
    }

    private static void promise27waitingTime() {
        PenOffice x = Testing.office("office 0 0 99 0 1 4 5;clerk a;clerk b;letter a 3 0 99 0;letter b 4 2 99 0;letter b 1 9 99 0;");
        x.pass(1);
        T.due("27 of a letter that was always written", x.waitingTime(0), 0);
        T.due("27 of a letter that has not arrived", x.waitingTime(1), 0);
        x.pass(2);
        T.due("27 one minute after the arrival", x.waitingTime(1), 1);
        T.due("27 of a finished letter", x.waitingTime(0), 0);
        x.pass(1);
        T.due("27 of a letter in work", x.waitingTime(1), 1);
        x.addLetter(0, 2, 0, 99, 0);
        x.setPolicy(4);
        x.pass(1);
        T.due("27 of the letter that is written instead", x.waitingTime(3), 0);
        T.due("27 of a letter that waits again", x.waitingTime(1), 2);
        T.due("25 blotted up to its length", x.remaining(1), 4);
        x.discard(3);
        T.due("27 of a discarded letter", x.waitingTime(3), 0);
        x.pass(4);
        T.due("27 the blot is no waiting", x.waitingTime(1), 2);
        T.due("26 the blotted letter took its length once more", x.finishMinute(1), 9);
        x.pass(5);
        T.due("27 a finished letter waits no more", x.waitingTime(1), 2);
        T.due("27 of a discarded letter later", x.waitingTime(3), 0);
    }

    private static void promise28effectivePriority() {
        PenOffice x = Testing.office("office 0 0 99 0 1 3 0;clerk a;clerk b;letter a 9 0 99 4;letter b 1 1 99 9;letter b 1 8 99 2;");
        T.due("28 of the first letter", x.effectivePriority(0), 4);
        int[] waited = {9, 9, 9, 9, 10, 10, 10, 11, 11, 11};
        for (int minute = 0; minute < 9; minute++) {
            T.due("28 of a waiting letter at minute " + minute, x.effectivePriority(1), waited[minute]);
            T.due("28 of a letter that is written", x.effectivePriority(0), 4);
            x.pass(1);
        }
        T.due("28 of a letter that arrived one minute before", x.effectivePriority(2), 2);
        x.pass(50);
        T.due("28 of a finished letter, which waited 8 minutes", x.effectivePriority(1), 11);
        T.due("28 of a finished letter, which waited 2 minutes", x.effectivePriority(2), 2);
        x.setPriority(1, 0);
        T.due("28 with a new priority", x.effectivePriority(1), 2);
        PenOffice y = Testing.office("office 0 0 99 0 1 1 0;clerk a;clerk b;letter a 9 0 99 4;letter b 1 1 99 9;letter b 1 8 99 2;");
        y.pass(6);
        T.due("28 with an aging time of 1", y.effectivePriority(1), 14);
        T.due("28 of a letter that has not arrived", y.effectivePriority(2), 2);
    }

    private static void promises29and30ready() {
        PenOffice x = Testing.office("office 0 0 99 0 1 3 0;clerk a;clerk b;letter a 2 3 99 4;letter b 1 0 99 9;letter b 2 2 99 2;");
        boolean[][] ready = {
            {false, true, false}, {false, false, false}, {false, false, true}, {true, false, true}, {true, false, false},
            {true, false, false}, {false, false, false},
        };
        for (int minute = 0; minute < ready.length; minute++) {
            int count = 0;
            for (int i = 0; i < 3; i++) {
                T.due("29 isReady " + i + " at minute " + minute, x.isReady(i), ready[minute][i]);
                count += ready[minute][i] ? 1 : 0;
            }
            T.due("30 readyCount at minute " + minute, x.readyCount(), count);
            x.pass(1);
        }
    }

    private static void selections(String when, PenOffice x, int first, int shortest, int earliest, int priority, int robin) {
        int[] want = {first, shortest, earliest, priority, robin};
        for (int policy = 0; policy < 5; policy++) {
            T.due("32 " + when + ", policy " + policy, x.selectedBy(policy), want[policy]);
        }
        T.due("31 " + when, x.selectedLetter(), want[x.policy()]);
    }

    private static void promise32atTheStart() {
        PenOffice x = Testing.office("office 0 0 99 0 2 5 0;clerk a;clerk b;"
            + "letter a 5 0 50 1;letter b 3 0 40 1;letter a 3 0 40 9;letter b 1 1 9 9;");
        selections("ties at the start", x, 0, 1, 1, 2, 0);
        selections("no letter is ready", Testing.office("office 3 0 99 0 2 5 0;clerk a;clerk b;letter a 1 1 1 1;"), -1, -1, -1, -1, -1);
        selections("no letter at all", Testing.office("office 4 0 99 0 2 5 0;clerk a;clerk b;"), -1, -1, -1, -1, -1);
    }

    private static void promise32withACurrentLetter() {
        PenOffice x = Testing.office("office 0 0 99 0 2 5 0;clerk a;clerk b;"
            + "letter b 4 0 41 1;letter a 6 0 50 1;letter b 4 0 40 9;letter b 1 99 9 9;");
        x.addLetter(1, 1, 0, 41, 0);
        x.discard(4);
        x.addLetter(1, 5, 0, 60, 0);
        x.setDeadline(1, 1);
        x.setPolicy(2);
        x.pass(1);
        x.setDeadline(1, 50);
        selections("letter 1 with 5 minutes left is current", x, 1, 0, 2, 1, 1);
        x.pass(1);
        selections("letter 2 is current", x, 2, 2, 2, 2, 2);
        x.setDeadline(2, 41);
        selections("letter 2 is current and ties by deadline", x, 2, 2, 2, 2, 2);
        x.setDeadline(2, 42);
        selections("letter 2 is current and not the earliest", x, 2, 2, 0, 2, 2);
        x.extend(2, 1);
        selections("letter 2 is current and ties by rest", x, 2, 2, 0, 2, 2);
        x.extend(2, 1);
        selections("letter 2 is current and not the shortest", x, 2, 0, 0, 2, 2);
        x.setPriority(0, 9);
        selections("a greater priority waits", x, 2, 0, 0, 2, 2);
    }

    private static void promise32arrivals() {
        PenOffice x = Testing.office("office 0 0 99 0 2 5 0;clerk a;clerk b;"
            + "letter a 2 5 50 1;letter b 2 4 50 1;letter a 2 4 50 1;letter b 2 1 50 1;letter b 2 0 50 1;");
        x.pass(1);
        x.discard(4);
        selections("one letter is ready", x, 3, 3, 3, 3, 3);
        x.discard(3);
        x.pass(4);
        T.due("11 letter 1 was written first", x.lastLetter(), 1);
        x.discard(1);
        selections("the least arrival, the least number, the next number", x, 2, 0, 0, 0, 2);
    }

    private static void promise32roundRobin() {
        PenOffice x = Testing.office("office 0 0 99 0 3 5 0;clerk a;clerk b;"
            + "letter a 9 0 50 1;letter b 9 0 50 1;letter a 9 0 50 1;letter b 9 9 50 1;");
        for (int run = 0; run < 6; run++) {
            T.due("32 round robin after a run of " + run, x.selectedBy(4), run < 3 ? 0 : 1);
            x.pass(1);
        }
        T.due("14 the run under policy 0", x.runLength(), 6);
        x.setPolicy(4);
        int[] order = {1, 1, 1, 2, 2, 2, 3, 3, 3, 0, 0, 0, 1, 1, 1, 2, 2, 2};
        for (int i = 0; i < order.length; i++) {
            T.due("32 round robin in turn " + i, x.selectedBy(4), order[i]);
            x.pass(1);
            T.due("13 lastLetter in turn " + i, x.lastLetter(), order[i]);
        }
    }

    private static void promise32roundRobinWithoutCurrent() {
        PenOffice x = Testing.office("office 4 0 99 0 2 5 0;clerk a;clerk b;letter a 9 1 50 1;letter b 1 0 50 1;letter a 9 1 50 1;");
        x.pass(1);
        T.due("32 the letter behind the finished last letter", x.selectedBy(4), 2);
        x.pass(1);
        x.discard(0);
        x.pass(1);
        T.due("14 the run at the quantum", x.runLength(), 2);
        T.due("32 the last letter itself, at the end of the order", x.selectedBy(4), 2);
        x.pass(1);
        T.due("14 the run starts anew", x.runLength(), 1);
        x.setPolicy(0);
        x.pass(3);
        T.due("14 the run goes on under another policy", x.runLength(), 4);
        x.setPolicy(4);
        x.pass(1);
        T.due("14 the run starts anew from beyond the quantum", x.runLength(), 1);
    }

    private static void promise32aging() {
        // Aging 2: letter 1 waits from minute 0, letter 2 from minute 4, letter 0 is written till minute 6.
        PenOffice x = Testing.office("office 3 0 99 0 2 2 0;clerk a;clerk b;letter a 6 0 50 9;letter b 2 0 50 4;letter b 2 4 50 6;");
        x.pass(6);
        T.due("28 4 and a bonus of 3", x.effectivePriority(1), 7);
        T.due("28 6 and a bonus of 1", x.effectivePriority(2), 7);
        selections("a tie of effective priorities", x, 1, 1, 1, 1, 1);
        x.setPriority(2, 7);
        T.due("32 the greatest effective priority", x.selectedBy(3), 2);
        x.pass(1);
        T.due("32 the current letter stays", x.selectedBy(3), 2);
        x.pass(1);
        T.due("32 the rest", x.selectedBy(3), 1);
    }

    private static void promise32wrongPolicies() {
        PenOffice x = new PenOffice();
        for (int policy : new int[] {-1, 5, Integer.MIN_VALUE, Integer.MAX_VALUE}) {
            T.refused("32 selectedBy " + policy, IllegalArgumentException.class, () -> x.selectedBy(policy));
        }
    }

    private static void promise31selectedLetter() {
        PenOffice x = new PenOffice();
        T.due("31 at the start", x.selectedLetter(), 0);
        x.pass(13);
        T.due("16 a refill is going on", x.refillLeft(), 2);
        T.due("31 during a refill", x.selectedLetter(), 3);
        x.pass(7);
        T.due("31 when all letters are finished", x.selectedLetter(), -1);
        x = Testing.office("office 1 4 99 0 2 2 0;clerk a;clerk b;letter a 6 0 50 9;letter b 2 2 50 4;");
        x.pass(2);
        T.due("17 a hand-over is going on", x.handOverLeft(), 2);
        T.due("31 during a hand-over", x.selectedLetter(), 1);
        T.due("11 the holder stays", x.holder(), 0);
    }

    private static String countsOf(PenOffice x) {
        return x.readyCount() + " " + x.openLettersOf(0) + " " + x.openLettersOf(1) + " " + x.workOf(0) + " " + x.workOf(1) + " "
            + x.finishedCount() + " " + x.lateCount();
    }

    /** A letter that an undo took away counts nowhere. */
    private static void promises30to37afterUndo() {
        PenOffice x = Testing.office("office 0 0 99 0 2 5 0;clerk a;clerk b;letter a 2 0 50 1;");
        x.addLetter(1, 3, 0, 1, 9);
        T.due("30 to 37 with a second letter", countsOf(x), "2 1 1 2 3 0 0");
        x.undo();
        T.due("30 to 37 after undo", countsOf(x), "1 1 0 2 0 0 0");
        x.addLetter(1, 1, 0, 1, 9);
        x.pass(3);
        T.due("30 to 37 with a late letter", countsOf(x), "0 0 0 0 0 2 1");
        x.undo();
        x.undo();
        T.due("30 to 37 after two undos", countsOf(x), "1 1 0 2 0 0 0");
        x.addLetter(0, 4, 0, 9, 9);
        T.due("26 of a letter at a number that was finished", x.finishMinute(1), -1);
        x.pass(3);
        T.due("27 of a letter at a number that was written", x.waitingTime(1), 2);
    }

    private static void promises30to37ofTwelve() {
        PenOffice x = Testing.office("office 0 0 99 0 2 5 0;clerk a;clerk b;" + "letter b 2 0 3 1;".repeat(12));
        T.due("30 to 37 of twelve letters", countsOf(x), "12 0 12 0 24 0 0");
        T.due("35 of twelve letters", x.busiestClerk(), 1);
        x.pass(24);
        T.due("30 to 37 of twelve finished letters", countsOf(x), "0 0 0 0 0 12 11");
        T.due("38 of twelve finished letters", x.greatestLateness(), 21);
        T.due("44 of twelve finished letters", x.meanTurnaround(), 13.0);
    }

    private static void promises33to35clerks() {
        PenOffice x = Testing.office("office 0 0 99 0 2 5 0;clerk a;clerk b;clerk c;"
            + "letter a 2 0 50 1;letter b 3 0 50 1;letter c 4 0 50 1;letter b 1 500 50 1;");
        T.due("33 openLettersOf 0", x.openLettersOf(0), 1);
        T.due("33 openLettersOf 1, with one that has not arrived", x.openLettersOf(1), 2);
        T.due("34 workOf 1, with one that has not arrived", x.workOf(1), 4);
        T.due("34 workOf 2", x.workOf(2), 4);
        T.due("35 the lowest number wins a tie", x.busiestClerk(), 1);
        x.pass(1);
        T.due("34 workOf 0", x.workOf(0), 1);
        x.pass(1);
        T.due("34 workOf 0 at the end", x.workOf(0), 0);
        T.due("33 openLettersOf 0 at the end", x.openLettersOf(0), 0);
        x.pass(1);
        T.due("35 busiestClerk", x.busiestClerk(), 2);
        x.pass(100);
        T.due("35 busiestClerk later", x.busiestClerk(), 1);
        x.pass(297);
        x.pass(101);
        T.due("35 without work", x.busiestClerk(), 0);
        PenOffice y = x;
        for (int clerk : new int[] {-1, 3, 6, Integer.MIN_VALUE, Integer.MAX_VALUE}) {
            T.refused("33 openLettersOf " + clerk, IndexOutOfBoundsException.class, () -> y.openLettersOf(clerk));
            T.refused("34 workOf " + clerk, IndexOutOfBoundsException.class, () -> y.workOf(clerk));
        }
    }
}
