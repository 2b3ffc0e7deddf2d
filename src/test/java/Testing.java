import java.util.NoSuchElementException;
import java.util.Objects;

/** Counts the answers of a test that are as due, and prints every other one. */
final class Testing {
    /** A call whose answer, or whose exception, is looked at. */
    interface Call {
        Object run();
    }

    static final Class<IndexOutOfBoundsException> INDEX = IndexOutOfBoundsException.class;
    static final Class<IllegalArgumentException> ARGUMENT = IllegalArgumentException.class;
    static final Class<IllegalStateException> STATE = IllegalStateException.class;
    static final Class<NoSuchElementException> ELEMENT = NoSuchElementException.class;

    private final String name;
    private String sentence = "";
    private int passed;
    private int failed;

    Testing(String name) {
        this.name = name;
    }

    /** Names the sentence of the document that the next answers are about. */
    void about(String words) {
        sentence = " [" + words + "]";
    }

    int answers() {
        return passed + failed;
    }

    void due(String what, Object got, Object want) {
        count(Objects.equals(got, want), what + " answered " + got + ", due is " + want);
    }

    /** Asks that a call throws just this exception, not one of a class below it. */
    void refused(String what, Class<? extends RuntimeException> want, Call call) {
        String got;
        try {
            got = "answered " + call.run();
        } catch (RuntimeException e) {
            got = "threw " + e.getClass().getName();
        }
        count(got.equals("threw " + want.getName()), what + " " + got + ", due is a throw of " + want.getName());
    }

    /** Asks the same, and that the call leaves the state as it was. */
    void refusedAndKept(PenOffice x, String what, Class<? extends RuntimeException> want, Call call) {
        String before = stateOf(x);
        refused(what, want, call);
        due("the state after " + what, stateOf(x), before);
    }

    private void count(boolean right, String fault) {
        if (right) {
            passed++;
        } else {
            failed++;
            System.out.println(name + sentence + ": " + fault);
        }
    }

    /** Prints the counts, and ends the program with 1 if an answer was wrong. */
    void end() {
        System.out.println(name + ": " + passed + " answers are as due, " + failed + " are not");
        if (failed > 0) {
            System.exit(1);
        }
    }

    /** Puts a text behind the input buffer, 20 bytes a call. */
    static void type(PenOffice office, String text) {
        for (int from = 0; from < text.length(); from += 20) {
            String part = text.substring(from, Math.min(from + 20, text.length()));
            String full = part + " ".repeat(20 - part.length());
            int length = office.append(four(full, 0), four(full, 4), four(full, 8), four(full, 12), four(full, 16));
            if (part.length() < 20) {
                office.truncate(length - 20 + part.length());
            }
        }
    }

    static int four(String text, int from) {
        int four = 0;
        for (int i = from; i < from + 4; i++) {
            four = four << 8 | text.charAt(i);
        }
        return four;
    }

    static PenOffice office(String setup) {
        PenOffice office = new PenOffice();
        type(office, setup);
        office.load();
        return office;
    }

    static int script(PenOffice office, String text) {
        type(office, text);
        return office.runScript();
    }

    /** Lets more minutes pass than one call may. */
    static void passMany(PenOffice office, int minutes) {
        for (int left = minutes; left > 0; left -= 300) {
            office.pass(Math.min(left, 300));
        }
    }

    static String output(PenOffice office) {
        StringBuilder text = new StringBuilder();
        int length = office.writeLetters();
        for (int i = 0; i < length; i++) {
            text.append((char) office.outputByte(i));
        }
        return text.toString();
    }

    static String nameOf(PenOffice office, int clerk) {
        StringBuilder text = new StringBuilder();
        for (int i = 0; i < 7; i++) {
            try {
                text.append((char) office.nameByte(clerk, i));
            } catch (IndexOutOfBoundsException e) {
                return text.toString();
            }
        }
        return text.toString();
    }

    /** Everything that undoing, saving and restoring affect, as far as calls that change nothing tell it. */
    static String stateOf(PenOffice x) {
        StringBuilder all = new StringBuilder();
        all.append(x.clerkCount()).append(' ').append(x.letterCount()).append(' ').append(x.minute()).append(' ')
            .append(x.policy()).append(' ').append(x.holder()).append(' ').append(x.currentLetter()).append(' ')
            .append(x.lastLetter()).append(' ').append(x.runLength()).append(' ').append(x.ink()).append(' ')
            .append(x.refillLeft()).append(' ').append(x.handOverLeft()).append(' ').append(x.blots()).append(' ')
            .append(x.handOvers()).append(' ').append(x.writtenMinutes()).append(' ').append(x.idleMinutes()).append(' ')
            .append(x.inconsistencies()).append(' ').append(x.minutesToFinish());
        for (int i = 0; i < x.clerkCount(); i++) {
            all.append(" | ").append(nameOf(x, i));
        }
        for (int i = 0; i < x.letterCount(); i++) {
            all.append(" | ").append(x.clerkOf(i)).append(' ').append(x.length(i)).append(' ').append(x.arrival(i))
                .append(' ').append(x.deadline(i)).append(' ').append(x.priority(i)).append(' ').append(x.remaining(i))
                .append(' ').append(x.finishMinute(i)).append(' ').append(x.waitingTime(i));
        }
        return all.toString();
    }
}
