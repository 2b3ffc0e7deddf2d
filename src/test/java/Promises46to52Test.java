/** Promises 46 to 52: forecasts and comparisons. */
public final class Promises46to52Test {
    // Each letter is blotted back to its length again and again: with policy 4 none is ever finished.
    private static final String ENDLESS = "office 4 0 99 0 1 1 5;clerk a;clerk b;letter a 2 0 9 0;letter b 2 0 1 0;";
    private static final Testing T = new Testing("Promises46to52Test");

    public static void main(String[] args) {
        promises46to51changeNothing();
        promise46minutesToFinish();
        promises46and47at1500();
        promise47minutesToFinishLetter();
        promise48letterWrittenIn();
        promises49to51ofTheFirstOffice();
        promises49to51endless();
        promises49and50laterThan1500();
        promise51ties();
        promises46to50beyondMinute2000();
        promise52fewestLate();
        promise52later();
        T.end();
    }

    private static void promises46to51changeNothing() {
        PenOffice x = new PenOffice();
        x.pass(5);
        String before = Testing.stateOf(x);
        x.minutesToFinishLetter(3);
        x.letterWrittenIn(300);
        for (int policy = 0; policy < 5; policy++) {
            x.lateWith(policy);
            x.waitingWith(policy);
        }
        x.bestPolicy();
        x.fewestLate();
        T.due("46 to 52 change nothing", Testing.stateOf(x), before);
        T.due("46 to 52 are no changes", x.undo(), 0);
    }

    private static void promise46minutesToFinish() {
        PenOffice x = new PenOffice();
        for (int minute = 0; minute < 25; minute++) {
            T.due("46 at minute " + minute, x.minutesToFinish(), Math.max(0, 20 - minute));
            x.pass(1);
        }
        T.due("46 without letters", Testing.office("office 4 0 99 0 1 1 5;clerk a;clerk b;").minutesToFinish(), 0);
        PenOffice y = Testing.office(ENDLESS);
        T.due("46 without an end", y.minutesToFinish(), -1);
        y.setPolicy(0);
        T.due("46 with an end", y.minutesToFinish(), 4);
        y.discard(0);
        y.discard(1);
        T.due("46 of discarded letters", y.minutesToFinish(), 0);
    }

    /** 150 minutes of writing with a refill of 9 minutes after each but the last end 1491 minutes after the arrival. */
    private static String longWork(int arrival) {
        return "office 0 0 1 9 1 1 5;clerk a;clerk b;" + ("letter a 30 " + arrival + " 9 0;").repeat(5);
    }

    private static void promises46and47at1500() {
        PenOffice x = Testing.office(longWork(9));
        T.due("46 of 1500 minutes", x.minutesToFinish(), 1500);
        T.due("47 of 1500 minutes", x.minutesToFinishLetter(4), 1500);
        T.due("47 of the first letter", x.minutesToFinishLetter(0), 300);
        x = Testing.office(longWork(10));
        T.due("46 of 1501 minutes", x.minutesToFinish(), -1);
        T.due("47 of 1501 minutes", x.minutesToFinishLetter(4), -1);
        T.due("47 of the fourth letter", x.minutesToFinishLetter(3), 1201);
        x.pass(1);
        T.due("46 one minute later", x.minutesToFinish(), 1500);
        T.due("47 one minute later", x.minutesToFinishLetter(4), 1500);
    }

    private static void promise47minutesToFinishLetter() {
        PenOffice x = new PenOffice();
        int[] finish = {6, 9, 13, 20};
        for (int minute = 0; minute < 22; minute++) {
            for (int i = 0; i < 4; i++) {
                T.due("47 of " + i + " at minute " + minute, x.minutesToFinishLetter(i), Math.max(0, finish[i] - minute));
            }
            x.pass(1);
        }
        for (int letter : new int[] {-1, 4, 12, Integer.MIN_VALUE, Integer.MAX_VALUE}) {
            T.refused("47 of letter " + letter, IndexOutOfBoundsException.class, () -> x.minutesToFinishLetter(letter));
        }
        T.due("47 without an end", Testing.office(ENDLESS).minutesToFinishLetter(0), -1);
    }

    private static void promise48letterWrittenIn() {
        PenOffice x = new PenOffice();
        int[] written = {-1, 0, 0, 0, 0, 0, -1, 1, 1, -1, 2, 2, 2, -1, -1, -1, 3, 3, 3, 3, -1, -1};
        for (int minute = 0; minute < written.length; minute++) {
            T.due("48 of minute " + minute, x.letterWrittenIn(minute), written[minute]);
        }
        x.pass(8);
        T.due("48 of the minute that begins now", x.letterWrittenIn(0), 1);
        T.due("48 of the minute before it ended", x.letterWrittenIn(1), -1);
        T.refused("48 of -1", IllegalArgumentException.class, () -> x.letterWrittenIn(-1));
        T.refused("48 of 301", IllegalArgumentException.class, () -> x.letterWrittenIn(301));
        T.refused("48 of the greatest int", IllegalArgumentException.class, () -> x.letterWrittenIn(Integer.MAX_VALUE));
        PenOffice y = Testing.office("office 0 0 99 0 1 1 5;clerk a;clerk b;letter a 1 300 9 0;");
        T.due("48 of 299", y.letterWrittenIn(299), -1);
        T.due("48 of 300", y.letterWrittenIn(300), 0);
    }

    private static void promises49to51ofTheFirstOffice() {
        PenOffice x = new PenOffice();
        T.due("49 with policy 0", x.lateWith(0), 2);
        T.due("50 with policy 0", x.waitingWith(0), 28);
        T.due("49 with policy 3", x.lateWith(3), 1);
        // Hand-over 0, and as letter 1 has arrived then, hand-over 1; letter 1 in 2 and 3, 3 from 4 to 7, hand-over 8,
        // 0 from 9 to 12, refill 13 and 14, 0 in 15, 2 from 16 to 18.
        T.due("50 with policy 3", x.waitingWith(3), (16 - 0 - 5) + (4 - 1 - 2) + (19 - 2 - 3) + (8 - 3 - 4));
        T.due("51 of the first office", x.bestPolicy(), 3);
        x.pass(20);
        for (int policy = 0; policy < 5; policy++) {
            T.due("49 of finished letters", x.lateWith(policy), 2);
            T.due("50 of finished letters", x.waitingWith(policy), 28);
        }
        T.due("51 of finished letters", x.bestPolicy(), 0);
        for (int policy : new int[] {-1, 5, Integer.MIN_VALUE, Integer.MAX_VALUE}) {
            T.refused("49 with policy " + policy, IllegalArgumentException.class, () -> x.lateWith(policy));
            T.refused("50 with policy " + policy, IllegalArgumentException.class, () -> x.waitingWith(policy));
        }
    }

    private static void promises49to51endless() {
        PenOffice x = Testing.office(ENDLESS);
        T.due("49 letters that are not finished count", x.lateWith(4), 2);
        T.due("50 of 1500 minutes", x.waitingWith(4), 1500);
        T.due("49 with policy 0", x.lateWith(0), 1);
        T.due("50 with policy 0", x.waitingWith(0), 2);
        T.due("49 with policy 2", x.lateWith(2), 1);
        T.due("51", x.bestPolicy(), 0);
        x.pass(7);
        T.due("50 at minute 7", x.waitingWith(4), 1507);
        x.setPolicy(0);
        T.due("50 does not depend on the policy", x.waitingWith(4), 1507);
        x.addLetter(0, 1, 999, 999, 0);
        T.due("49 with a third letter, which is written once", x.lateWith(4), 3);
    }

    /** The last letter would be finished after 1501 minutes. */
    private static void promises49and50laterThan1500() {
        PenOffice x = Testing.office(longWork(10));
        x.setDeadline(4, 999);
        T.due("49 of 1501 minutes", x.lateWith(0), 5);
        // Each letter waits for those before it, 300 minutes each, and 9 minutes between two of its own;
        // the first four end at 301, 601 and so on, and after 1500 minutes 29 minutes of the last are written.
        int waiting = (301 - 10 - 30) + (601 - 10 - 30) + (901 - 10 - 30) + (1201 - 10 - 30) + (1500 - 10 - 29);
        T.due("50 of 1501 minutes", x.waitingWith(0), waiting);
        x = Testing.office("office 0 0 99 0 1 1 5;clerk a;clerk b;letter a 2 10 11 0;letter b 1 11 99 0;");
        T.due("49 of letters that have not arrived", x.lateWith(0), 1);
        T.due("50 of letters that have not arrived", x.waitingWith(0), 1);
    }

    private static void promise51ties() {
        PenOffice x = Testing.office("office 4 0 99 0 1 9 0;clerk a;clerk b;letter a 5 0 999 0;letter b 2 0 998 0;");
        // None is ever late; the sums of waiting times are 5, 2, 2, 5 and, in turn, 2 and 2.
        T.due("50 with policy 0", x.waitingWith(0), 5);
        T.due("50 with policy 1", x.waitingWith(1), 2);
        T.due("50 with policy 2", x.waitingWith(2), 2);
        T.due("50 with policy 4", x.waitingWith(4), 4);
        T.due("51 the least waiting time, and the lowest number", x.bestPolicy(), 1);
        x.setDeadline(0, 5);
        x.setDeadline(1, 7);
        T.due("49 with policy 1", x.lateWith(1), 1);
        T.due("51 fewer late letters come first", x.bestPolicy(), 0);
        x.setPriority(1, 1);
        T.due("51 the policy of the office does not matter", x.bestPolicy(), 0);
        T.due("51 without letters", Testing.office("office 4 0 99 0 1 9 0;clerk a;clerk b;").bestPolicy(), 0);
    }

    private static void promises46to50beyondMinute2000() {
        PenOffice x = Testing.office("office 0 5 99 0 1 9 0;clerk a;clerk b;");
        Testing.passMany(x, 1990);
        x.addLetter(0, 30, 10, 999, 0);
        T.due("46 beyond minute 2000", x.minutesToFinish(), 45);
        T.due("47 beyond minute 2000", x.minutesToFinishLetter(0), 45);
        T.due("48 beyond minute 2000", x.letterWrittenIn(44), 0);
        T.due("48 beyond the letter", x.letterWrittenIn(45), -1);
        T.due("49 beyond minute 2000", x.lateWith(1), 1);
        T.due("50 beyond minute 2000", x.waitingWith(1), 5);
        x.pass(10);
        T.due("46 at minute 2000", x.minutesToFinish(), 35);
    }

    private static int fewest(String letters) {
        return Testing.office("office 0 5 1 9 1 9 5;clerk a;clerk b;" + letters).fewestLate();
    }

    private static void promise52fewestLate() {
        T.due("52 of the first office", new PenOffice().fewestLate(), 0);
        T.due("52 without letters", fewest(""), 0);
        T.due("52 at the deadline", fewest("letter a 5 999 5 0;"), 0);
        T.due("52 after the deadline", fewest("letter a 5 0 4 0;"), 1);
        T.due("52 one of three", fewest("letter a 3 0 5 0;letter b 3 0 6 0;letter a 3 0 7 0;"), 1);
        T.due("52 the first is too long", fewest("letter a 6 0 8 0;letter a 4 0 9 0;letter b 2 0 10 0;"), 1);
        T.due("52 numbers against the deadlines", fewest("letter a 2 0 10 0;letter a 4 0 9 0;letter b 6 0 8 0;"), 1);
        T.due("52 the longest goes", fewest("letter a 1 0 9 0;letter a 9 0 10 0;letter b 5 0 11 0;letter b 5 0 12 0;"), 1);
        T.due("52 two go", fewest("letter a 4 0 4 0;letter a 4 0 5 0;letter b 4 0 6 0;letter b 2 0 6 0;"), 2);
        T.due("52 all are late", fewest("letter a 4 0 3 0;".repeat(12)), 12);
        T.due("52 twelve in time", fewest("letter a 4 0 48 0;".repeat(12)), 0);
        T.due("52 one of twelve", fewest("letter a 4 0 47 0;".repeat(12)), 1);
        T.due("52 four go", fewest("letter a 9 0 10 0;letter a 2 0 10 0;letter a 9 0 10 0;letter b 8 0 11 0;letter b 3 0 12 0;"
            + "letter b 8 0 12 0;"), 4);
        T.due("52 three in time", fewest("letter a 4 0 12 0;".repeat(12)), 9);
        T.due("52 the late one would fit first", fewest("letter a 9 0 5 0;letter b 5 0 9 0;letter b 4 0 9 0;"), 1);
    }

    private static void promise52later() {
        PenOffice x = Testing.office("office 0 0 99 0 1 9 0;clerk a;clerk b;letter a 5 0 5 0;letter b 3 0 7 0;letter b 3 0 11 0;");
        T.due("52 at minute 0", x.fewestLate(), 1);
        x.pass(4);
        T.due("52 at minute 4, with 1, 3 and 3 minutes left", x.fewestLate(), 1);
        x.pass(2);
        T.due("52 finished letters do not count", x.fewestLate(), 1);
        x.setDeadline(1, 8);
        T.due("52 with a later deadline", x.fewestLate(), 0);
        x.setDeadline(0, 1);
        T.due("52 a late finished letter does not count", x.fewestLate(), 0);
        x.pass(100);
        T.due("52 when all are finished", x.fewestLate(), 0);
        x.addLetter(0, 1, 100, 106, 0);
        T.due("52 at a minute behind the deadline", x.fewestLate(), 1);
        x.setDeadline(3, 107);
        T.due("52 before the arrival", x.fewestLate(), 0);
    }
}
