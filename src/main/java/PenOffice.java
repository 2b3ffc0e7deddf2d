import java.util.NoSuchElementException;

/** A simulator of clerks who share one pen. */
public final class PenOffice {
    public static final int NONE = -1;

    private static final String FIRST_SETUP = "office 0 1 10 2 3 4 1;clerk ann;clerk bob;letter ann 5 0 9 2;letter bob 2 1 6 5;letter ann 3 2 20 1;letter bob 4 3 12 7;";

    private static final int LEAST_CLERKS = 2;
    private static final int MOST_CLERKS = 6;
    private static final int MOST_LETTERS = 12;
    private static final int MOST_COMMANDS = 30;
    private static final int LONGEST_NAME = 6;
    private static final int LONGEST_WORD = 8;
    private static final int LONGEST_NUMBER = 3;
    private static final int LONGEST_LETTER = 30;
    private static final int LARGEST_NUMBER = 999;
    private static final int LAST_MINUTE = 2000;
    private static final int LONGEST_PASS = 300;
    private static final int FORECAST_MINUTES = 1500;
    private static final int INPUT_BYTES = 600;
    private static final int BYTES_PER_APPEND = 20;
    private static final int UNDO_STEPS = 6;
    private static final int SLOTS = 2;
    // Twelve letters of a name, a colon, two digits and a mark, with eleven spaces between them.
    private static final int OUTPUT_BYTES = 131;

    private static final int FIRST_COME = 0;
    private static final int SHORTEST = 1;
    private static final int EARLIEST = 2;
    private static final int PRIORITY = 3;
    private static final int ROUND_ROBIN = 4;
    private static final int POLICIES = 5;

    private static final int WRONG_TOKEN = 1;
    private static final int WRONG_NUMBER = 2;
    private static final int WRONG_NAME = 3;
    private static final int TOO_MANY = 4;

    // The numbers of the first sentence of a setup text: policy, handover, ink, refill, quantum, aging, blot.
    private static final int[] LEAST_SETTINGS = {0, 0, 1, 0, 1, 1, 0};
    private static final int[] MOST_SETTINGS = {4, 5, 99, 9, 9, 20, 5};
    // The numbers of a letter: length, arrival (or delay), deadline, priority.
    private static final int[] LEAST_OF_LETTER = {1, 0, 1, 0};
    private static final int[] MOST_OF_LETTER = {30, 999, 999, 9};

    private static final int ADD_LETTER = 0;
    private static final int PASS = 1;
    private static final int SET_POLICY = 2;
    private static final int SET_DEADLINE = 3;
    private static final int SET_PRIORITY = 4;
    private static final int DISCARD = 5;
    private static final int[] NUMBERS_OF_COMMAND = {4, 1, 1, 2, 2, 1};

    private final State state;
    // Forecasts run on the spare state, and a setup text is read into it.
    private final State spare = new State();
    private final Input input;
    private final Script script = new Script();
    private final Output output = new Output();
    private final History history = new History();
    private final State[] saved = new State[SLOTS];
    private final boolean[] isSaved = new boolean[SLOTS];

    public PenOffice() {
        for (int slot = 0; slot < SLOTS; slot++) {
            saved[slot] = new State();
        }
        Input text = new Input();
        State first = new State();
        text.putText(FIRST_SETUP);
        readSetup(text, first);
        text.length = 0;
        input = text;
        state = first;
    }

    // ---- input

    public int append(int a, int b, int c, int d, int e) throws IllegalStateException {
        if (input.length > INPUT_BYTES - BYTES_PER_APPEND) {
            throw new IllegalStateException("the input buffer is full");
        }
        input.putFour(a);
        input.putFour(b);
        input.putFour(c);
        input.putFour(d);
        input.putFour(e);
        return input.length;
    }

    public int truncate(int length) throws IllegalArgumentException {
        if (length < 0 || length > input.length) {
            throw new IllegalArgumentException("the buffer has no such length");
        }
        input.length = length;
        return length;
    }

    public int load() throws IllegalArgumentException {
        boolean valid = readSetup(input, spare);
        input.length = 0;
        if (!valid) {
            throw new IllegalArgumentException("the setup text has an error");
        }
        state.copyFrom(spare);
        history.count = 0;
        for (int slot = 0; slot < SLOTS; slot++) {
            isSaved[slot] = false;
        }
        return state.letterCount;
    }

    public int errorCode() {
        return input.errorCode;
    }

    public int errorPosition() {
        return input.errorPosition;
    }

    // ---- office

    public int clerkCount() {
        return state.clerks.count;
    }

    public int letterCount() {
        return state.letterCount;
    }

    public int minute() {
        return state.minute;
    }

    public int policy() {
        return state.policy;
    }

    public int holder() {
        return state.holder;
    }

    public int currentLetter() {
        return state.current;
    }

    public int lastLetter() {
        return state.last;
    }

    public int runLength() {
        return state.run;
    }

    public int ink() {
        return state.ink;
    }

    public int refillLeft() {
        return state.refillLeft;
    }

    public int handOverLeft() {
        return state.handOverLeft;
    }

    public int nameByte(int clerk, int index) throws IndexOutOfBoundsException {
        requireClerk(clerk);
        if (index < 0 || index >= state.clerks.nameLengths[clerk]) {
            throw new IndexOutOfBoundsException("the name has no such letter");
        }
        return state.clerks.names[clerk][index];
    }

    public int findClerk() throws NoSuchElementException {
        int clerk = state.clerks.find(input.bytes, 0, input.length);
        if (clerk == NONE) {
            throw new NoSuchElementException("no clerk has this name");
        }
        return clerk;
    }

    // ---- letters

    public int clerkOf(int letter) throws IndexOutOfBoundsException {
        requireLetter(letter);
        return state.letters[letter].clerk;
    }

    public int length(int letter) throws IndexOutOfBoundsException {
        requireLetter(letter);
        return state.letters[letter].length;
    }

    public int arrival(int letter) throws IndexOutOfBoundsException {
        requireLetter(letter);
        return state.letters[letter].arrival;
    }

    public int deadline(int letter) throws IndexOutOfBoundsException {
        requireLetter(letter);
        return state.letters[letter].deadline;
    }

    public int priority(int letter) throws IndexOutOfBoundsException {
        requireLetter(letter);
        return state.letters[letter].priority;
    }

    public int remaining(int letter) throws IndexOutOfBoundsException {
        requireLetter(letter);
        return state.letters[letter].remaining;
    }

    public int finishMinute(int letter) throws IndexOutOfBoundsException {
        requireLetter(letter);
        return state.letters[letter].finish;
    }

    public int waitingTime(int letter) throws IndexOutOfBoundsException {
        requireLetter(letter);
        return state.letters[letter].waitedAt(state.minute);
    }

    public int effectivePriority(int letter) throws IndexOutOfBoundsException {
        requireLetter(letter);
        return state.settings.effective(state.letters[letter].priority, state.letters[letter].waitedAt(state.minute));
    }

    public boolean isReady(int letter) throws IndexOutOfBoundsException {
        requireLetter(letter);
        return state.letters[letter].isReadyAt(state.minute);
    }

    public int readyCount() {
        return state.countReady();
    }

    public int selectedLetter() {
        return state.selectBy(state.policy);
    }

    public int selectedBy(int policy) throws IllegalArgumentException {
        refuse(policyFault(policy));
        return state.selectBy(policy);
    }

    public int openLettersOf(int clerk) throws IndexOutOfBoundsException {
        requireClerk(clerk);
        return state.countOpenOf(clerk);
    }

    public int workOf(int clerk) throws IndexOutOfBoundsException {
        requireClerk(clerk);
        return state.remainingOf(clerk);
    }

    public int busiestClerk() {
        int busiest = 0;
        for (int clerk = 1; clerk < state.clerks.count; clerk++) {
            if (state.remainingOf(clerk) > state.remainingOf(busiest)) {
                busiest = clerk;
            }
        }
        return busiest;
    }

    // ---- results

    public int finishedCount() {
        return state.letterCount - state.countOpen();
    }

    public int lateCount() {
        return state.countLate();
    }

    public int greatestLateness() throws NoSuchElementException {
        if (state.countOpen() == state.letterCount) {
            throw new NoSuchElementException("no letter is finished");
        }
        return state.worstLateness();
    }

    public int blots() {
        return state.blots;
    }

    public int handOvers() {
        return state.handOvers;
    }

    public int writtenMinutes() {
        return state.writtenMinutes;
    }

    public int idleMinutes() {
        return state.idleMinutes;
    }

    public float utilization() {
        if (state.minute <= 0) {
            return 0.0f;
        }
        return (float) state.writtenMinutes / (float) state.minute;
    }

    public double meanTurnaround() {
        int finished = state.letterCount - state.countOpen();
        if (finished <= 0) {
            return 0.0;
        }
        return (double) state.totalTurnaround() / (double) finished;
    }

    public int inconsistencies() {
        return state.minute - state.writtenMinutes - state.idleMinutes - state.refillMinutes - state.handOverMinutes;
    }

    // ---- forecasts and comparisons

    public int minutesToFinish() {
        spare.copyFrom(state);
        int open = spare.countOpen();
        for (int minutes = 0; minutes <= FORECAST_MINUTES; minutes++) {
            if (open == 0) {
                return minutes;
            }
            open -= spare.runMinutes(1);
        }
        return NONE;
    }

    public int minutesToFinishLetter(int letter) throws IndexOutOfBoundsException {
        requireLetter(letter);
        spare.copyFrom(state);
        for (int minutes = 0; minutes <= FORECAST_MINUTES; minutes++) {
            if (spare.isFinished(letter)) {
                return minutes;
            }
            spare.runMinute();
        }
        return NONE;
    }

    public int letterWrittenIn(int minutes) throws IllegalArgumentException {
        if (minutes < 0 || minutes > LONGEST_PASS) {
            throw new IllegalArgumentException("the minutes are out of range");
        }
        spare.copyFrom(state);
        for (int before = 0; before < minutes; before++) {
            spare.runMinute();
        }
        return spare.runMinute();
    }

    public int lateWith(int policy) throws IllegalArgumentException {
        refuse(policyFault(policy));
        runSpareWith(policy);
        return spare.countLate() + spare.countOpen();
    }

    public int waitingWith(int policy) throws IllegalArgumentException {
        refuse(policyFault(policy));
        runSpareWith(policy);
        return spare.totalWaiting();
    }

    public int bestPolicy() {
        int best = NONE;
        int bestLate = 0;
        int bestWaiting = 0;
        for (int policy = 0; policy < POLICIES; policy++) {
            runSpareWith(policy);
            int late = spare.countLate() + spare.countOpen();
            int waiting = spare.totalWaiting();
            if (best == NONE || late < bestLate || (late == bestLate && waiting < bestWaiting)) {
                best = policy;
                bestLate = late;
                bestWaiting = waiting;
            }
        }
        return best;
    }

    public int fewestLate() {
        int[] onTime = new int[MOST_LETTERS];
        int count = 0;
        int late = 0;
        int end = state.minute;
        int letter = state.nextByDeadline(NONE);
        for (int turn = 0; turn < MOST_LETTERS && letter != NONE; turn++) {
            onTime[count] = state.letters[letter].remaining;
            end += onTime[count];
            count++;
            if (end > state.letters[letter].deadline) {
                // Of the letters so far one must be late: giving up the longest leaves the most time.
                int longest = indexOfGreatest(onTime, count);
                end -= onTime[longest];
                count--;
                onTime[longest] = onTime[count];
                late++;
            }
            letter = state.nextByDeadline(letter);
        }
        return late;
    }

    // ---- changes

    public int addLetter(int clerk, int length, int delay, int deadline, int priority) throws IndexOutOfBoundsException, IllegalArgumentException, IllegalStateException {
        refuse(addFault(clerk, length, delay, deadline, priority));
        history.keep(state);
        return state.putLetter(clerk, length, state.minute + delay, deadline, priority);
    }

    public int pass(int minutes) throws IllegalArgumentException, IllegalStateException {
        refuse(passFault(minutes));
        history.keep(state);
        return state.runMinutes(minutes);
    }

    public int setPolicy(int policy) throws IllegalArgumentException {
        refuse(policyFault(policy));
        history.keep(state);
        int previous = state.policy;
        state.policy = policy;
        return previous;
    }

    public int setDeadline(int letter, int deadline) throws IndexOutOfBoundsException, IllegalArgumentException {
        refuse(deadlineFault(letter, deadline));
        history.keep(state);
        int previous = state.letters[letter].deadline;
        state.letters[letter].deadline = deadline;
        return previous;
    }

    public int setPriority(int letter, int priority) throws IndexOutOfBoundsException, IllegalArgumentException {
        refuse(priorityFault(letter, priority));
        history.keep(state);
        int previous = state.letters[letter].priority;
        state.letters[letter].priority = priority;
        return previous;
    }

    public int extend(int letter, int minutes) throws IndexOutOfBoundsException, IllegalArgumentException, IllegalStateException {
        refuse(extendFault(letter, minutes));
        history.keep(state);
        state.letters[letter].length += minutes;
        state.letters[letter].remaining += minutes;
        return state.letters[letter].remaining;
    }

    public int discard(int letter) throws IndexOutOfBoundsException, IllegalStateException {
        refuse(discardFault(letter));
        history.keep(state);
        return state.dropLetter(letter);
    }

    public int runScript() throws IllegalArgumentException {
        boolean valid = script.read(input, state.clerks);
        input.length = 0;
        if (!valid) {
            throw new IllegalArgumentException("the script has an error");
        }
        history.keep(state);
        int executed = 0;
        while (executed < script.count && execute(script.commands[executed])) {
            executed++;
        }
        return executed;
    }

    // ---- undo, saved states, output

    public int undo() throws IllegalStateException {
        if (history.count == 0) {
            throw new IllegalStateException("there is no change to undo");
        }
        history.takeBack(state);
        return history.count;
    }

    public int save(int slot) throws IndexOutOfBoundsException {
        requireSlot(slot);
        saved[slot].copyFrom(state);
        isSaved[slot] = true;
        return state.minute;
    }

    public int restore(int slot) throws IndexOutOfBoundsException, IllegalStateException {
        requireSlot(slot);
        if (!isSaved[slot]) {
            throw new IllegalStateException("nothing is saved in the slot");
        }
        state.copyFrom(saved[slot]);
        history.count = 0;
        return state.minute;
    }

    public int writeLetters() {
        output.length = 0;
        for (int i = 0; i < state.letterCount; i++) {
            Letter letter = state.letters[i];
            if (i > 0) {
                output.put(' ');
            }
            for (int k = 0; k < state.clerks.nameLengths[letter.clerk]; k++) {
                output.put(state.clerks.names[letter.clerk][k]);
            }
            output.put(':');
            if (letter.remaining >= 10) {
                output.put('0' + letter.remaining / 10);
            }
            output.put('0' + letter.remaining % 10);
            if (i == state.current) {
                output.put('*');
            } else if (letter.isLate()) {
                output.put('!');
            }
        }
        return output.length;
    }

    public int outputByte(int index) throws IndexOutOfBoundsException {
        if (index < 0 || index >= output.length) {
            throw new IndexOutOfBoundsException("the output text has no such byte");
        }
        return output.bytes[index];
    }

    // ---- what a call refuses

    private void requireClerk(int clerk) {
        if (!state.hasClerk(clerk)) {
            throw new IndexOutOfBoundsException("there is no such clerk");
        }
    }

    private void requireLetter(int letter) {
        if (!state.hasLetter(letter)) {
            throw new IndexOutOfBoundsException("there is no such letter");
        }
    }

    private static void requireSlot(int slot) {
        if (slot < 0 || slot >= SLOTS) {
            throw new IndexOutOfBoundsException("there is no such slot");
        }
    }

    private static void refuse(Fault fault) {
        if (fault == Fault.INDEX) {
            throw new IndexOutOfBoundsException("there is no such clerk or letter");
        }
        if (fault == Fault.ARGUMENT) {
            throw new IllegalArgumentException("a number is out of range");
        }
        if (fault == Fault.STATE) {
            throw new IllegalStateException("the office does not allow it now");
        }
    }

    private Fault addFault(int clerk, int length, int delay, int deadline, int priority) {
        if (!state.hasClerk(clerk)) {
            return Fault.INDEX;
        }
        if (outside(length, 1, LONGEST_LETTER) || outside(delay, 0, LARGEST_NUMBER)
                || outside(deadline, 1, LARGEST_NUMBER) || outside(priority, 0, 9)) {
            return Fault.ARGUMENT;
        }
        if (state.letterCount >= MOST_LETTERS || state.minute + delay > LAST_MINUTE) {
            return Fault.STATE;
        }
        return Fault.NOTHING;
    }

    private Fault passFault(int minutes) {
        if (outside(minutes, 1, LONGEST_PASS)) {
            return Fault.ARGUMENT;
        }
        return state.minute + minutes > LAST_MINUTE ? Fault.STATE : Fault.NOTHING;
    }

    private static Fault policyFault(int policy) {
        return outside(policy, 0, POLICIES - 1) ? Fault.ARGUMENT : Fault.NOTHING;
    }

    private Fault deadlineFault(int letter, int deadline) {
        if (!state.hasLetter(letter)) {
            return Fault.INDEX;
        }
        return outside(deadline, 1, LARGEST_NUMBER) ? Fault.ARGUMENT : Fault.NOTHING;
    }

    private Fault priorityFault(int letter, int priority) {
        if (!state.hasLetter(letter)) {
            return Fault.INDEX;
        }
        return outside(priority, 0, 9) ? Fault.ARGUMENT : Fault.NOTHING;
    }

    private Fault extendFault(int letter, int minutes) {
        if (!state.hasLetter(letter)) {
            return Fault.INDEX;
        }
        if (outside(minutes, 1, LONGEST_LETTER - 1)) {
            return Fault.ARGUMENT;
        }
        Letter longer = state.letters[letter];
        if (longer.remaining == 0 || longer.length + minutes > LONGEST_LETTER) {
            return Fault.STATE;
        }
        return Fault.NOTHING;
    }

    private Fault discardFault(int letter) {
        if (!state.hasLetter(letter)) {
            return Fault.INDEX;
        }
        return state.letters[letter].isReadyAt(state.minute) ? Fault.NOTHING : Fault.STATE;
    }

    private static boolean outside(int number, int least, int most) {
        return number < least || number > most;
    }

    // ---- helpers of the calls

    private void runSpareWith(int policy) {
        spare.copyFrom(state);
        spare.policy = policy;
        int open = spare.countOpen();
        // When all letters are finished, later minutes change neither lateness nor waiting times.
        for (int minutes = 0; minutes < FORECAST_MINUTES && open > 0; minutes++) {
            open -= spare.runMinutes(1);
        }
    }

    private static int indexOfGreatest(int[] numbers, int count) {
        int greatest = 0;
        for (int i = 1; i < count; i++) {
            if (numbers[i] > numbers[greatest]) {
                greatest = i;
            }
        }
        return greatest;
    }

    /** Tells whether the command was executed: a script stops quietly where the method of a command would throw. */
    private boolean execute(Command command) {
        int a = command.numbers[0];
        int b = command.numbers[1];
        int c = command.numbers[2];
        int d = command.numbers[3];
        switch (command.kind) {
            case ADD_LETTER:
                if (addFault(command.clerk, a, b, c, d) != Fault.NOTHING) {
                    return false;
                }
                state.putLetter(command.clerk, a, state.minute + b, c, d);
                return true;
            case PASS:
                if (passFault(a) != Fault.NOTHING) {
                    return false;
                }
                state.runMinutes(a);
                return true;
            case SET_POLICY:
                if (policyFault(a) != Fault.NOTHING) {
                    return false;
                }
                state.policy = a;
                return true;
            case SET_DEADLINE:
                if (deadlineFault(a, b) != Fault.NOTHING) {
                    return false;
                }
                state.letters[a].deadline = b;
                return true;
            case SET_PRIORITY:
                if (priorityFault(a, b) != Fault.NOTHING) {
                    return false;
                }
                state.letters[a].priority = b;
                return true;
            case DISCARD:
                if (discardFault(a) != Fault.NOTHING) {
                    return false;
                }
                state.dropLetter(a);
                return true;
            default:
                return false;
        }
    }

    // ---- the setup text

    /** Tells whether the text has no error; if it has one, the office is left half read, so it must not be the one in use. */
    private static boolean readSetup(Input in, State office) {
        in.begin();
        if (!readSettings(in, office) || !readClerks(in, office.clerks)) {
            return false;
        }
        office.begin();
        return readLetters(in, office);
    }

    private static boolean readSettings(Input in, State office) {
        if (!in.takeKeyword("office") || !in.takeNumbers(LEAST_SETTINGS, MOST_SETTINGS)) {
            return false;
        }
        office.policy = in.numbers[0];
        office.settings.handOverTime = in.numbers[1];
        office.settings.inkCapacity = in.numbers[2];
        office.settings.refillTime = in.numbers[3];
        office.settings.quantum = in.numbers[4];
        office.settings.agingTime = in.numbers[5];
        office.settings.blot = in.numbers[6];
        return in.takeSemicolon();
    }

    private static boolean readClerks(Input in, Clerks clerks) {
        clerks.count = 0;
        for (int n = 0; n <= MOST_CLERKS; n++) {
            if (!in.isAtWord("clerk")) {
                return n >= LEAST_CLERKS || in.fail(WRONG_TOKEN);
            }
            if (n == MOST_CLERKS) {
                return in.fail(TOO_MANY);
            }
            in.advance();
            if (!in.isAtName()) {
                return false;
            }
            if (clerks.find(in.bytes, in.start, in.after) != NONE) {
                return in.fail(WRONG_NAME);
            }
            clerks.add(in.bytes, in.start, in.after);
            in.advance();
            if (!in.takeSemicolon()) {
                return false;
            }
        }
        return true;
    }

    private static boolean readLetters(Input in, State office) {
        for (int n = 0; n <= MOST_LETTERS && in.kind != Input.END; n++) {
            if (!in.isAtWord("letter")) {
                return in.fail(WRONG_TOKEN);
            }
            if (n == MOST_LETTERS) {
                return in.fail(TOO_MANY);
            }
            in.advance();
            int clerk = in.takeClerk(office.clerks);
            if (clerk == NONE || !in.takeNumbers(LEAST_OF_LETTER, MOST_OF_LETTER) || !in.takeSemicolon()) {
                return false;
            }
            office.putLetter(clerk, in.numbers[0], in.numbers[1], in.numbers[2], in.numbers[3]);
        }
        return true;
    }

    /** Why a change is refused: scripts ask for this where a call of the face throws. */
    private enum Fault { NOTHING, INDEX, ARGUMENT, STATE }

    /** The settings of an office, which only a new setup replaces. */
    private static final class Settings {
        int handOverTime;
        int inkCapacity = 1;
        int refillTime;
        int quantum = 1;
        int agingTime = 1;
        int blot;

        void copyFrom(Settings other) {
            handOverTime = other.handOverTime;
            inkCapacity = other.inkCapacity;
            refillTime = other.refillTime;
            quantum = other.quantum;
            agingTime = other.agingTime;
            blot = other.blot;
        }

        int effective(int priority, int waited) {
            return agingTime > 0 ? priority + waited / agingTime : priority;
        }
    }

    /** The clerks and their names. */
    private static final class Clerks {
        int count;
        final byte[][] names = new byte[MOST_CLERKS][LONGEST_NAME];
        final int[] nameLengths = new int[MOST_CLERKS];

        void copyFrom(Clerks other) {
            count = other.count;
            for (int clerk = 0; clerk < count; clerk++) {
                nameLengths[clerk] = other.nameLengths[clerk];
                System.arraycopy(other.names[clerk], 0, names[clerk], 0, LONGEST_NAME);
            }
        }

        void add(byte[] text, int from, int to) {
            if (count >= MOST_CLERKS || to - from > LONGEST_NAME) {
                return;
            }
            for (int i = 0; i < to - from; i++) {
                names[count][i] = text[from + i];
            }
            nameLengths[count] = to - from;
            count++;
        }

        /** Returns the clerk whose name stands in the text from one index up to another, or NONE. */
        int find(byte[] text, int from, int to) {
            for (int clerk = 0; clerk < count; clerk++) {
                if (isNamed(clerk, text, from, to)) {
                    return clerk;
                }
            }
            return NONE;
        }

        private boolean isNamed(int clerk, byte[] text, int from, int to) {
            if (nameLengths[clerk] != to - from) {
                return false;
            }
            for (int i = 0; i < nameLengths[clerk]; i++) {
                if (names[clerk][i] != text[from + i]) {
                    return false;
                }
            }
            return true;
        }
    }

    /** A letter of a clerk. */
    private static final class Letter {
        int clerk;
        int length;
        int arrival;
        int deadline;
        int priority;
        int remaining;
        int finish = NONE;
        int written;

        void copyFrom(Letter other) {
            clerk = other.clerk;
            length = other.length;
            arrival = other.arrival;
            deadline = other.deadline;
            priority = other.priority;
            remaining = other.remaining;
            finish = other.finish;
            written = other.written;
        }

        boolean isReadyAt(int minute) {
            return arrival <= minute && remaining > 0;
        }

        boolean isLate() {
            return remaining == 0 && finish > deadline;
        }

        int waitedAt(int minute) {
            if (arrival > minute) {
                return 0;
            }
            int end = remaining == 0 ? finish : minute;
            return end - arrival - written;
        }
    }

    /** The whole state that undoing, saving and restoring affect. */
    private static final class State {
        final Settings settings = new Settings();
        final Clerks clerks = new Clerks();
        final Letter[] letters = new Letter[MOST_LETTERS];
        int letterCount;
        int minute;
        int policy;
        int holder = NONE;
        int current = NONE;
        int last = NONE;
        int run;
        int ink;
        int refillLeft;
        int handOverLeft;
        int blots;
        int handOvers;
        int writtenMinutes;
        int idleMinutes;
        int refillMinutes;
        int handOverMinutes;

        State() {
            for (int i = 0; i < MOST_LETTERS; i++) {
                letters[i] = new Letter();
            }
        }

        /** Clears what an earlier use has left, for forecasts run on the state that a setup is read into. */
        void begin() {
            letterCount = 0;
            minute = 0;
            holder = NONE;
            current = NONE;
            last = NONE;
            run = 0;
            ink = settings.inkCapacity;
            refillLeft = 0;
            handOverLeft = 0;
            blots = 0;
            handOvers = 0;
            writtenMinutes = 0;
            idleMinutes = 0;
            refillMinutes = 0;
            handOverMinutes = 0;
        }

        void copyFrom(State other) {
            settings.copyFrom(other.settings);
            clerks.copyFrom(other.clerks);
            letterCount = other.letterCount;
            for (int i = 0; i < letterCount; i++) {
                letters[i].copyFrom(other.letters[i]);
            }
            minute = other.minute;
            policy = other.policy;
            holder = other.holder;
            current = other.current;
            last = other.last;
            run = other.run;
            ink = other.ink;
            refillLeft = other.refillLeft;
            handOverLeft = other.handOverLeft;
            blots = other.blots;
            handOvers = other.handOvers;
            writtenMinutes = other.writtenMinutes;
            idleMinutes = other.idleMinutes;
            refillMinutes = other.refillMinutes;
            handOverMinutes = other.handOverMinutes;
        }

        boolean hasClerk(int clerk) {
            return clerk >= 0 && clerk < clerks.count;
        }

        boolean hasLetter(int letter) {
            return letter >= 0 && letter < letterCount;
        }

        int putLetter(int clerk, int length, int arrival, int deadline, int priority) {
            if (letterCount >= MOST_LETTERS) {
                return NONE;
            }
            Letter letter = letters[letterCount];
            letter.clerk = clerk;
            letter.length = length;
            letter.arrival = arrival;
            letter.deadline = deadline;
            letter.priority = priority;
            letter.remaining = length;
            letter.finish = NONE;
            letter.written = 0;
            letterCount++;
            return letterCount - 1;
        }

        int dropLetter(int number) {
            Letter letter = letters[number];
            int rest = letter.remaining;
            letter.remaining = 0;
            letter.finish = minute;
            if (current == number) {
                current = NONE;
            }
            return rest;
        }

        // ---- counts and sums

        int countReady() {
            int count = 0;
            for (int i = 0; i < letterCount; i++) {
                if (letters[i].isReadyAt(minute)) {
                    count++;
                }
            }
            return count;
        }

        int countOpen() {
            int count = 0;
            for (int i = 0; i < letterCount; i++) {
                if (letters[i].remaining > 0) {
                    count++;
                }
            }
            return count;
        }

        int countOpenOf(int clerk) {
            int count = 0;
            for (int i = 0; i < letterCount; i++) {
                if (letters[i].clerk == clerk && letters[i].remaining > 0) {
                    count++;
                }
            }
            return count;
        }

        int remainingOf(int clerk) {
            int sum = 0;
            for (int i = 0; i < letterCount; i++) {
                if (letters[i].clerk == clerk) {
                    sum += letters[i].remaining;
                }
            }
            return sum;
        }

        int countLate() {
            int count = 0;
            for (int i = 0; i < letterCount; i++) {
                if (letters[i].isLate()) {
                    count++;
                }
            }
            return count;
        }

        /** The caller has seen to it that a letter is finished. */
        int worstLateness() {
            int worst = -LARGEST_NUMBER;
            for (int i = 0; i < letterCount; i++) {
                if (letters[i].remaining == 0 && letters[i].finish - letters[i].deadline > worst) {
                    worst = letters[i].finish - letters[i].deadline;
                }
            }
            return worst;
        }

        int totalTurnaround() {
            int sum = 0;
            for (int i = 0; i < letterCount; i++) {
                if (letters[i].remaining == 0) {
                    sum += letters[i].finish - letters[i].arrival;
                }
            }
            return sum;
        }

        int totalWaiting() {
            int sum = 0;
            for (int i = 0; i < letterCount; i++) {
                sum += letters[i].waitedAt(minute);
            }
            return sum;
        }

        // ---- orders of the letters

        int selectBy(int selection) {
            if (selection == ROUND_ROBIN) {
                return selectInTurn();
            }
            if (current != NONE && (selection == FIRST_COME || selection == PRIORITY)) {
                return current;
            }
            // Starting with the current letter, and taking only better ones, lets it win its ties.
            int best = current;
            int bestRank = current == NONE ? 0 : rankBy(selection, letters[current]);
            for (int i = 0; i < letterCount; i++) {
                if (letters[i].isReadyAt(minute)) {
                    int rank = rankBy(selection, letters[i]);
                    if (best == NONE || rank < bestRank) {
                        best = i;
                        bestRank = rank;
                    }
                }
            }
            return best;
        }

        /** Returns the number by which a policy compares letters: the least is selected. */
        private int rankBy(int selection, Letter letter) {
            switch (selection) {
                case FIRST_COME:
                    return letter.arrival;
                case SHORTEST:
                    return letter.remaining;
                case EARLIEST:
                    return letter.deadline;
                default:
                    return -settings.effective(letter.priority, letter.waitedAt(minute));
            }
        }

        private int selectInTurn() {
            if (current != NONE && run < settings.quantum) {
                return current;
            }
            int next = last + 1;
            for (int turn = 0; turn < letterCount; turn++) {
                if (next >= letterCount) {
                    next = 0;
                }
                if (letters[next].isReadyAt(minute)) {
                    return next;
                }
                next++;
            }
            return NONE;
        }

        /** Returns the open letter that follows another one by deadline and number, or NONE. */
        int nextByDeadline(int previous) {
            int next = NONE;
            for (int i = 0; i < letterCount; i++) {
                if (letters[i].remaining > 0
                        && (previous == NONE || isDueBefore(previous, i))
                        && (next == NONE || isDueBefore(i, next))) {
                    next = i;
                }
            }
            return next;
        }

        private boolean isDueBefore(int one, int other) {
            if (letters[one].deadline != letters[other].deadline) {
                return letters[one].deadline < letters[other].deadline;
            }
            return one < other;
        }

        // ---- the simulation

        /** Lets minutes pass and returns the number of letters that were finished in them. */
        int runMinutes(int minutes) {
            int finished = 0;
            for (int i = 0; i < minutes; i++) {
                if (isFinished(runMinute())) {
                    finished++;
                }
            }
            return finished;
        }

        /** Tells whether a letter is finished; NONE is not. */
        boolean isFinished(int number) {
            return number != NONE && letters[number].remaining == 0;
        }

        /** Lets one minute pass and returns the letter that was written in it, or NONE. */
        int runMinute() {
            int written = NONE;
            if (refillLeft > 0) {
                refill();
            } else if (handOverLeft > 0) {
                handOverMinutes++;
                handOverLeft--;
            } else {
                int selected = selectBy(policy);
                if (selected == NONE) {
                    idleMinutes++;
                } else if (!beginsHandOverTo(letters[selected].clerk)) {
                    write(selected);
                    written = selected;
                }
            }
            minute++;
            return written;
        }

        private void refill() {
            refillMinutes++;
            refillLeft--;
            if (refillLeft == 0) {
                ink = settings.inkCapacity;
            }
        }

        /** Makes a clerk the holder; tells whether the present minute goes to a hand-over. */
        private boolean beginsHandOverTo(int clerk) {
            if (clerk == holder) {
                return false;
            }
            holder = clerk;
            handOvers++;
            if (settings.handOverTime == 0) {
                return false;
            }
            handOverMinutes++;
            handOverLeft = settings.handOverTime - 1;
            return true;
        }

        private void write(int number) {
            if (current != NONE && current != number) {
                smear(letters[current]);
            }
            boolean startsAnew = policy == ROUND_ROBIN && run >= settings.quantum;
            run = number != last || startsAnew ? 1 : run + 1;
            last = number;
            current = number;
            Letter letter = letters[number];
            letter.remaining--;
            letter.written++;
            writtenMinutes++;
            if (letter.remaining == 0) {
                letter.finish = minute + 1;
                current = NONE;
            }
            useInk();
        }

        private void smear(Letter letter) {
            blots++;
            letter.remaining += settings.blot;
            if (letter.remaining > letter.length) {
                letter.remaining = letter.length;
            }
        }

        private void useInk() {
            ink--;
            if (ink > 0) {
                return;
            }
            if (settings.refillTime == 0) {
                ink = settings.inkCapacity;
            } else {
                refillLeft = settings.refillTime;
            }
        }
    }

    /** The states before the latest changes, in a ring. */
    private static final class History {
        final State[] states = new State[UNDO_STEPS];
        int count;
        private int newest;

        History() {
            for (int i = 0; i < UNDO_STEPS; i++) {
                states[i] = new State();
            }
        }

        void keep(State state) {
            newest = newest + 1 < UNDO_STEPS ? newest + 1 : 0;
            states[newest].copyFrom(state);
            if (count < UNDO_STEPS) {
                count++;
            }
        }

        void takeBack(State state) {
            if (count == 0) {
                return;
            }
            state.copyFrom(states[newest]);
            newest = newest > 0 ? newest - 1 : UNDO_STEPS - 1;
            count--;
        }
    }

    /** The input buffer, its tokens from left to right, and the error of the latest text. */
    private static final class Input {
        static final int END = 0;
        static final int WORD = 1;
        static final int NUMBER = 2;
        static final int SEMICOLON = 3;
        static final int INVALID = 4;

        final byte[] bytes = new byte[INPUT_BYTES];
        int length;
        int kind;
        int start;
        int after;
        final int[] numbers = new int[LEAST_SETTINGS.length];
        int errorCode;
        int errorPosition = NONE;

        void putText(String text) {
            for (int i = 0; i < text.length(); i++) {
                putByte(text.charAt(i));
            }
        }

        void putFour(int four) {
            putByte(four >>> 24);
            putByte(four >>> 16);
            putByte(four >>> 8);
            putByte(four);
        }

        private void putByte(int sign) {
            if (length < INPUT_BYTES) {
                bytes[length] = (byte) sign;
                length++;
            }
        }

        void begin() {
            errorCode = 0;
            errorPosition = NONE;
            after = 0;
            advance();
        }

        void advance() {
            start = after;
            while (start < length && (bytes[start] == ' ' || bytes[start] == '\n')) {
                start++;
            }
            after = start;
            if (start >= length) {
                kind = END;
            } else if (bytes[start] >= 'a' && bytes[start] <= 'z') {
                endRun('a', 'z');
                kind = after - start > LONGEST_WORD ? INVALID : WORD;
            } else if (bytes[start] >= '0' && bytes[start] <= '9') {
                endRun('0', '9');
                kind = after - start > LONGEST_NUMBER ? INVALID : NUMBER;
            } else {
                kind = bytes[start] == ';' ? SEMICOLON : INVALID;
                after = start + 1;
            }
        }

        private void endRun(int low, int high) {
            while (after < length && bytes[after] >= low && bytes[after] <= high) {
                after++;
            }
        }

        /** Returns false always, so that a reader can end with it. */
        boolean fail(int code) {
            errorCode = code;
            errorPosition = start;
            return false;
        }

        boolean isAtWord(String word) {
            if (kind != WORD || after - start != word.length()) {
                return false;
            }
            for (int i = 0; i < word.length(); i++) {
                if (bytes[start + i] != word.charAt(i)) {
                    return false;
                }
            }
            return true;
        }

        boolean takeKeyword(String word) {
            if (!isAtWord(word)) {
                return fail(WRONG_TOKEN);
            }
            advance();
            return true;
        }

        boolean takeSemicolon() {
            if (kind != SEMICOLON) {
                return fail(WRONG_TOKEN);
            }
            advance();
            return true;
        }

        /** Tells whether the token can be a name, and keeps its error if not. */
        boolean isAtName() {
            if (kind != WORD) {
                return fail(WRONG_TOKEN);
            }
            return after - start <= LONGEST_NAME || fail(WRONG_NAME);
        }

        /** Takes the name of a clerk and returns the clerk; NONE with an error. */
        int takeClerk(Clerks clerks) {
            if (!isAtName()) {
                return NONE;
            }
            int clerk = clerks.find(bytes, start, after);
            if (clerk == NONE) {
                fail(WRONG_NAME);
            } else {
                advance();
            }
            return clerk;
        }

        /** Takes as many numbers as there are ranges; tells whether all are there and in range. */
        boolean takeNumbers(int[] least, int[] most) {
            for (int i = 0; i < least.length && i < most.length && i < numbers.length; i++) {
                if (!takeNumber(i)) {
                    return false;
                }
                if (outside(numbers[i], least[i], most[i])) {
                    return fail(WRONG_NUMBER);
                }
                advance();
            }
            return true;
        }

        /** The numbers of a script are not checked by the parser. */
        boolean takeAnyNumbers(int count) {
            for (int i = 0; i < count && i < numbers.length; i++) {
                if (!takeNumber(i)) {
                    return false;
                }
                advance();
            }
            return true;
        }

        private boolean takeNumber(int place) {
            if (kind != NUMBER) {
                return fail(WRONG_TOKEN);
            }
            int value = 0;
            for (int i = start; i < after; i++) {
                value = value * 10 + bytes[i] - '0';
            }
            numbers[place] = value;
            return true;
        }
    }

    /** A command of a script; the clerk matters only where a letter is added. */
    private static final class Command {
        int kind;
        int clerk;
        final int[] numbers = new int[LEAST_OF_LETTER.length];
    }

    /** The commands of a script. */
    private static final class Script {
        final Command[] commands = new Command[MOST_COMMANDS];
        int count;

        Script() {
            for (int i = 0; i < MOST_COMMANDS; i++) {
                commands[i] = new Command();
            }
        }

        boolean read(Input in, Clerks clerks) {
            in.begin();
            count = 0;
            for (int n = 0; n <= MOST_COMMANDS && in.kind != Input.END; n++) {
                int kind = kindOf(in);
                if (kind == NONE) {
                    return in.fail(WRONG_TOKEN);
                }
                if (n == MOST_COMMANDS) {
                    return in.fail(TOO_MANY);
                }
                in.advance();
                if (!readCommand(kind, in, clerks)) {
                    return false;
                }
            }
            return true;
        }

        private static int kindOf(Input in) {
            if (in.isAtWord("letter")) {
                return ADD_LETTER;
            }
            if (in.isAtWord("pass")) {
                return PASS;
            }
            if (in.isAtWord("policy")) {
                return SET_POLICY;
            }
            if (in.isAtWord("deadline")) {
                return SET_DEADLINE;
            }
            if (in.isAtWord("priority")) {
                return SET_PRIORITY;
            }
            return in.isAtWord("discard") ? DISCARD : NONE;
        }

        private boolean readCommand(int kind, Input in, Clerks clerks) {
            Command command = commands[count];
            command.kind = kind;
            if (kind == ADD_LETTER) {
                command.clerk = in.takeClerk(clerks);
                if (command.clerk == NONE) {
                    return false;
                }
            }
            int numbers = NUMBERS_OF_COMMAND[kind];
            if (!in.takeAnyNumbers(numbers) || !in.takeSemicolon()) {
                return false;
            }
            System.arraycopy(in.numbers, 0, command.numbers, 0, numbers);
            count++;
            return true;
        }
    }

    private static final class Output {
        final byte[] bytes = new byte[OUTPUT_BYTES];
        int length;

        void put(int sign) {
            if (length < OUTPUT_BYTES) {
                bytes[length] = (byte) sign;
                length++;
            }
        }
    }
}
