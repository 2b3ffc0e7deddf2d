import java.util.NoSuchElementException;

/** Promises 36 to 45: the results. */
public final class Promises36to45Test {
    private static final Testing T = new Testing("Promises36to45Test");

    public static void main(String[] args) {
        promises36to45atTheStart();
        promises36to45firstCome();
        promises37and38deadlines();
        promise39blots();
        promise40handOvers();
        promises41and42minutes();
        promise43utilization();
        promise44meanTurnaround();
        promise45inconsistencies();
        T.end();
    }

    private static String resultsOf(PenOffice x) {
        return x.finishedCount() + " " + x.lateCount() + " " + x.blots() + " " + x.handOvers() + " " + x.writtenMinutes() + " "
            + x.idleMinutes() + " " + x.utilization() + " " + x.meanTurnaround() + " " + x.inconsistencies();
    }

    private static void promises36to45atTheStart() {
        PenOffice x = new PenOffice();
        T.due("36 to 45 at the start", resultsOf(x), "0 0 0 0 0 0 0.0 0.0 0");
        T.refused("38 greatestLateness of nothing", NoSuchElementException.class, x::greatestLateness);
        PenOffice y = Testing.office("office 0 0 99 0 2 5 0;clerk a;clerk b;");
        T.due("36 to 45 without letters", resultsOf(y), "0 0 0 0 0 0 0.0 0.0 0");
        T.refused("38 greatestLateness without letters", NoSuchElementException.class, y::greatestLateness);
    }

    private static void promises36to45firstCome() {
        PenOffice x = new PenOffice();
        int[] finished = {0, 1, 2, 3, 3, 4};
        int[] minutes = {5, 6, 9, 13, 19, 24};
        int[] late = {0, 0, 1, 1, 1, 2};
        int[] lateness = {0, -3, 3, 3, 3, 8};
        int[] written = {4, 5, 7, 10, 13, 14};
        int[] handOvers = {1, 1, 2, 3, 4, 4};
        for (int i = 0; i < minutes.length; i++) {
            x.pass(minutes[i] - x.minute());
            T.due("36 at minute " + minutes[i], x.finishedCount(), finished[i]);
            T.due("37 at minute " + minutes[i], x.lateCount(), late[i]);
            if (i > 0) {
                T.due("38 at minute " + minutes[i], x.greatestLateness(), lateness[i]);
            }
            T.due("39 at minute " + minutes[i], x.blots(), 0);
            T.due("40 at minute " + minutes[i], x.handOvers(), handOvers[i]);
            T.due("41 at minute " + minutes[i], x.writtenMinutes(), written[i]);
            T.due("42 at minute " + minutes[i], x.idleMinutes(), i < 5 ? 0 : 4);
            T.due("43 at minute " + minutes[i], x.utilization(), (float) written[i] / (float) minutes[i]);
            T.due("45 at minute " + minutes[i], x.inconsistencies(), 0);
        }
        T.due("44 at the end", x.meanTurnaround(), 10.5);
    }

    private static void promises37and38deadlines() {
        PenOffice x = Testing.office("office 0 0 99 0 2 5 0;clerk a;clerk b;letter a 2 0 2 1;letter b 3 0 4 1;letter b 9 0 1 1;");
        x.pass(2);
        T.due("37 finished at the deadline", x.lateCount(), 0);
        T.due("38 finished at the deadline", x.greatestLateness(), 0);
        x.setDeadline(0, 999);
        T.due("38 a negative lateness", x.greatestLateness(), -997);
        x.pass(3);
        T.due("37 one minute late", x.lateCount(), 1);
        T.due("38 one minute late", x.greatestLateness(), 1);
        x.setDeadline(0, 1);
        T.due("37 late by a new deadline", x.lateCount(), 2);
        x.setDeadline(1, 999);
        T.due("37 in time by a new deadline", x.lateCount(), 1);
        T.due("38 over all finished letters", x.greatestLateness(), 1);
        x.discard(2);
        T.due("36 a discarded letter counts", x.finishedCount(), 3);
        T.due("37 a discarded letter counts", x.lateCount(), 2);
        T.due("38 a discarded letter counts", x.greatestLateness(), 4);
        PenOffice y = Testing.office("office 0 0 99 0 2 5 0;clerk a;clerk b;letter a 2 0 999 1;");
        y.discard(0);
        T.due("38 the least lateness of all", y.greatestLateness(), -999);
        PenOffice z = Testing.office("office 0 0 99 0 2 5 0;clerk a;clerk b;letter a 2 999 1 1;");
        Testing.passMany(z, 2000);
        T.due("38 a great lateness", z.greatestLateness(), 1000);
    }

    private static void promise39blots() {
        PenOffice x = Testing.office("office 1 0 99 0 2 5 3;clerk a;clerk b;letter a 9 0 50 1;letter a 3 1 50 1;letter b 1 2 50 1;");
        x.pass(1);
        T.due("39 no blot by the first letter", x.blots(), 0);
        x.pass(1);
        T.due("39 a blot", x.blots(), 1);
        T.due("25 not above the length", x.remaining(0), 9);
        x.pass(1);
        T.due("39 a second blot", x.blots(), 2);
        T.due("25 back to its length", x.remaining(1), 3);
        x.pass(1);
        T.due("39 no blot after a finished letter", x.blots(), 2);
        x.discard(1);
        x.pass(1);
        T.due("39 no blot after a discarded letter", x.blots(), 2);
        x.addLetter(1, 1, 0, 50, 0);
        x.extend(0, 20);
        T.due("25 extended", x.remaining(0), 28);
        x.pass(1);
        T.due("25 blotted after an extension", x.remaining(0), 29);
        T.due("39 a third blot", x.blots(), 3);
        PenOffice y = Testing.office("office 4 0 99 0 1 5 0;clerk a;clerk b;letter a 5 0 50 1;letter a 5 0 50 1;");
        y.pass(4);
        T.due("39 blots of no minutes count", y.blots(), 3);
        T.due("25 and take nothing", y.remaining(0), 3);
    }

    private static void promise40handOvers() {
        PenOffice x = Testing.office("office 4 0 99 0 1 5 0;clerk a;clerk b;letter b 2 0 50 1;letter a 5 0 50 1;letter a 5 0 50 1;");
        T.due("40 at first", x.handOvers(), 0);
        x.pass(1);
        T.due("40 the first holder counts", x.handOvers(), 1);
        x.pass(1);
        T.due("40 hand-overs without a time count", x.handOvers(), 2);
        x.pass(1);
        T.due("40 the same clerk", x.handOvers(), 2);
        x.pass(1);
        T.due("40 back", x.handOvers(), 3);
        Testing.type(x, "office 4 0 99 0 1 5 0;clerk a;clerk b;");
        x.load();
        T.due("40 since the latest setup", x.handOvers(), 0);
    }

    private static void promises41and42minutes() {
        PenOffice x = Testing.office("office 0 2 1 3 1 5 0;clerk a;clerk b;letter b 2 4 50 1;letter a 1 20 50 1;");
        // Idle 0 to 3, hand-over 4 and 5, written 6, refill 7 to 9, written 10, refill 11 to 13, idle 14 to 19,
        // hand-over 20 and 21, written 22, refill 23 to 25.
        String[] after = {"0 0", "0 4", "0 4", "1 4", "1 4", "2 4", "2 4", "2 10", "2 10", "3 10", "3 10", "3 14"};
        int[] minutes = {0, 4, 6, 7, 10, 11, 14, 20, 22, 23, 26, 30};
        for (int i = 1; i < minutes.length; i++) {
            x.pass(minutes[i] - minutes[i - 1]);
            T.due("41 and 42 at minute " + minutes[i], x.writtenMinutes() + " " + x.idleMinutes(), after[i]);
            T.due("45 at minute " + minutes[i], x.inconsistencies(), 0);
        }
        x.undo();
        T.due("42 after undo", x.idleMinutes(), 10);
        Testing.type(x, "office 4 0 99 0 1 5 0;clerk a;clerk b;");
        x.load();
        T.due("41 and 42 since the latest setup", x.writtenMinutes() + " " + x.idleMinutes(), "0 0");
    }

    private static void promise43utilization() {
        PenOffice x = Testing.office("office 0 0 99 0 1 5 0;clerk a;clerk b;letter b 2 1 50 1;");
        T.due("43 at minute 0", x.utilization(), 0.0f);
        x.pass(1);
        T.due("43 at minute 1", x.utilization(), 0.0f);
        x.pass(2);
        T.due("43 at minute 3", x.utilization(), 2.0f / 3.0f);
        x.pass(4);
        T.due("43 at minute 7", x.utilization(), 0.2857143f);
        PenOffice y = Testing.office("office 0 0 99 0 1 5 0;clerk a;clerk b;letter b 2 0 50 1;");
        y.pass(1);
        T.due("43 at minute 1 of a pen in full use", y.utilization(), 1.0f);
        y.pass(1);
        T.due("43 of a pen in full use", y.utilization(), 1.0f);
    }

    private static void promise44meanTurnaround() {
        PenOffice x = Testing.office("office 0 0 99 0 1 5 0;clerk a;clerk b;letter b 2 1 50 1;letter a 3 2 50 1;letter a 2 4 50 1;");
        x.pass(2);
        T.due("44 of nothing", x.meanTurnaround(), 0.0);
        x.pass(1);
        T.due("44 of one letter", x.meanTurnaround(), 2.0);
        x.pass(3);
        T.due("44 of two letters", x.meanTurnaround(), 3.0);
        x.pass(2);
        T.due("44 of three letters", x.meanTurnaround(), 10.0 / 3.0);
        x.addLetter(0, 9, 0, 9, 9);
        x.discard(3);
        T.due("44 with a discarded letter", x.meanTurnaround(), 2.5);
    }

    private static void promise45inconsistencies() {
        for (int policy = 0; policy < 5; policy++) {
            PenOffice x = new PenOffice();
            x.setPolicy(policy);
            for (int minute = 0; minute < 40; minute++) {
                x.pass(1);
                T.due("45 with policy " + policy, x.inconsistencies(), 0);
            }
            x.undo();
            T.due("45 after undo", x.inconsistencies(), 0);
        }
    }
}
