import java.util.ArrayDeque;
import java.util.ArrayList;
import java.util.Comparator;
import java.util.Deque;
import java.util.List;
import java.util.NoSuchElementException;
import java.util.regex.Matcher;
import java.util.regex.Pattern;

/** The document once more, in its plainest words and with the whole Java library: ModelTest compares the class with it. */
public final class Model {
    private static final Pattern TOKEN = Pattern.compile("[ \\n]*(?:(?<word>[a-z]+)|(?<number>[0-9]+)|(?<semicolon>;)|(?<other>[^ \\n])|(?<end>\\z))");

    /** A letter; it notes every minute in which it was written. */
    private static final class Mail implements Cloneable {
        int clerk, length, arrival, deadline, priority, remaining, number;
        int finish = -1;
        List<Integer> writtenIn = new ArrayList<>();

        Mail copy() {
            try {
                Mail copy = (Mail) clone();
                copy.writtenIn = new ArrayList<>(writtenIn);
                return copy;
            } catch (CloneNotSupportedException e) {
                throw new AssertionError(e);
            }
        }
    }

    private static final class World implements Cloneable {
        List<String> names = new ArrayList<>();
        List<Mail> mails = new ArrayList<>();
        int policy, handover, capacity, refill, quantum, aging, blot;
        int minute, ink, refillLeft, handoverLeft, run, blots, handOvers, writtenMinutes, idleMinutes, refillMinutes, handoverMinutes;
        int holder = -1;
        int current = -1;
        int last = -1;

        World copy() {
            try {
                World copy = (World) clone();
                copy.names = new ArrayList<>(names);
                copy.mails = new ArrayList<>();
                for (Mail mail : mails) {
                    copy.mails.add(mail.copy());
                }
                return copy;
            } catch (CloneNotSupportedException e) {
                throw new AssertionError(e);
            }
        }

        boolean ready(Mail mail) {
            return mail.arrival <= minute && mail.remaining != 0;
        }

        int waiting(Mail mail) {
            int waiting = 0;
            int end = mail.finish == -1 ? minute : mail.finish;
            for (int m = mail.arrival; m < end; m++) {
                waiting += mail.writtenIn.contains(m) ? 0 : 1;
            }
            return waiting;
        }

        int effective(Mail mail) {
            return mail.priority + Math.floorDiv(waiting(mail), aging);
        }

        int select(int by) {
            List<Mail> ready = new ArrayList<>(mails);
            ready.removeIf(mail -> !ready(mail));
            if (ready.isEmpty()) {
                return -1;
            }
            if (by == 4) {
                if (current != -1 && run < quantum) {
                    return current;
                }
                ready.sort(Comparator.comparing((Mail mail) -> mail.number <= last).thenComparing(mail -> mail.number));
                return ready.get(0).number;
            }
            if ((by == 0 || by == 3) && current != -1) {
                return current;
            }
            Comparator<Mail> order = Comparator.comparingInt((Mail mail) ->
                by == 0 ? mail.arrival : by == 1 ? mail.remaining : by == 2 ? mail.deadline : -effective(mail));
            ready.sort(order.thenComparing(mail -> mail.number != current).thenComparing(mail -> mail.number));
            return ready.get(0).number;
        }

        int step() {
            int written = stepWithin();
            minute++;
            return written;
        }

        private int stepWithin() {
            if (refillLeft > 0) {
                refillMinutes++;
                if (--refillLeft == 0) {
                    ink = capacity;
                }
                return -1;
            }
            if (handoverLeft > 0) {
                handoverMinutes++;
                handoverLeft--;
                return -1;
            }
            int selected = select(policy);
            if (selected == -1) {
                idleMinutes++;
                return -1;
            }
            Mail mail = mails.get(selected);
            if (mail.clerk != holder) {
                holder = mail.clerk;
                handOvers++;
                if (handover > 0) {
                    handoverLeft = handover - 1;
                    handoverMinutes++;
                    return -1;
                }
            }
            if (current != -1 && current != selected) {
                Mail old = mails.get(current);
                old.remaining = Math.min(old.length, old.remaining + blot);
                blots++;
            }
            if (selected != last) {
                run = 1;
            } else if (policy == 4 && run >= quantum) {
                run = 1;
            } else {
                run++;
            }
            last = selected;
            current = selected;
            mail.remaining--;
            mail.writtenIn.add(minute);
            writtenMinutes++;
            if (mail.remaining == 0) {
                mail.finish = minute + 1;
                current = -1;
            }
            if (--ink == 0) {
                if (refill == 0) {
                    ink = capacity;
                } else {
                    refillLeft = refill;
                }
            }
            return selected;
        }

        int open() {
            return (int) mails.stream().filter(mail -> mail.finish == -1).count();
        }

        int late() {
            return (int) mails.stream().filter(mail -> mail.finish != -1 && mail.finish > mail.deadline).count();
        }

        World after(int minutes, int by) {
            World later = copy();
            later.policy = by;
            for (int i = 0; i < minutes; i++) {
                later.step();
            }
            return later;
        }
    }

    /** An error of a text. */
    private static final class Wrong extends Exception {
        private static final long serialVersionUID = 1L;
        final int code;

        Wrong(int code) {
            this.code = code;
        }
    }

    /** The tokens of a text. */
    private static final class Tokens {
        final Matcher matcher;
        String kind;
        String text;
        int start;

        Tokens(String all) {
            matcher = TOKEN.matcher(all);
            next();
        }

        void next() {
            if (!matcher.find()) {
                return;
            }
            for (String group : new String[] {"word", "number", "semicolon", "other", "end"}) {
                if (matcher.group(group) != null) {
                    kind = group;
                    text = matcher.group(group);
                    start = matcher.start(group);
                }
            }
            if (kind.equals("word") && text.length() > 8 || kind.equals("number") && text.length() > 3) {
                kind = "other";
            }
        }

        boolean at(String word) {
            return kind.equals("word") && text.equals(word);
        }

        void need(boolean right) throws Wrong {
            if (!right) {
                throw new Wrong(1);
            }
        }

        void word(String word) throws Wrong {
            need(at(word));
            next();
        }

        void semicolon() throws Wrong {
            need(kind.equals("semicolon"));
            next();
        }

        int number(int least, int most) throws Wrong {
            need(kind.equals("number"));
            int number = Integer.parseInt(text);
            if (number < least || number > most) {
                throw new Wrong(2);
            }
            next();
            return number;
        }

        String name() throws Wrong {
            need(kind.equals("word"));
            if (text.length() > 6) {
                throw new Wrong(3);
            }
            return text;
        }
    }

    private World world;
    private final World[] saved = new World[2];
    private final Deque<World> history = new ArrayDeque<>();
    private String buffer = "";
    private int code;
    private int position = -1;
    private String output = "";

    public Model() {
        buffer = "office 0 1 10 2 3 4 1;clerk ann;clerk bob;letter ann 5 0 9 2;letter bob 2 1 6 5;letter ann 3 2 20 1;letter bob 4 3 12 7;";
        load();
    }

    private static void argument(boolean right) {
        if (!right) {
            throw new IllegalArgumentException();
        }
    }

    private static void state(boolean right) {
        if (!right) {
            throw new IllegalStateException();
        }
    }

    private static void index(boolean right) {
        if (!right) {
            throw new IndexOutOfBoundsException();
        }
    }

    private static boolean in(int number, int least, int most) {
        return least <= number && number <= most;
    }

    private Mail mail(int letter) {
        index(in(letter, 0, world.mails.size() - 1));
        return world.mails.get(letter);
    }

    private void clerk(int clerk) {
        index(in(clerk, 0, world.names.size() - 1));
    }

    private void remember() {
        history.push(world.copy());
        if (history.size() > 6) {
            history.removeLast();
        }
    }

    public int append(int a, int b, int c, int d, int e) {
        state(buffer.length() + 20 <= 600);
        for (int four : new int[] {a, b, c, d, e}) {
            for (int shift = 24; shift >= 0; shift -= 8) {
                buffer += (char) (four >> shift & 255);
            }
        }
        return buffer.length();
    }

    public int truncate(int length) {
        argument(in(length, 0, buffer.length()));
        buffer = buffer.substring(0, length);
        return length;
    }

    public int load() {
        Tokens in = new Tokens(buffer);
        buffer = "";
        code = 0;
        position = -1;
        World made = new World();
        try {
            in.word("office");
            made.policy = in.number(0, 4);
            made.handover = in.number(0, 5);
            made.capacity = in.number(1, 99);
            made.refill = in.number(0, 9);
            made.quantum = in.number(1, 9);
            made.aging = in.number(1, 20);
            made.blot = in.number(0, 5);
            made.ink = made.capacity;
            in.semicolon();
            while (made.names.size() < 2 || in.at("clerk")) {
                in.need(in.at("clerk"));
                if (made.names.size() == 6) {
                    throw new Wrong(4);
                }
                in.next();
                String name = in.name();
                if (made.names.contains(name)) {
                    throw new Wrong(3);
                }
                made.names.add(name);
                in.next();
                in.semicolon();
            }
            while (!in.kind.equals("end")) {
                in.need(in.at("letter"));
                if (made.mails.size() == 12) {
                    throw new Wrong(4);
                }
                in.next();
                int clerk = made.names.indexOf(in.name());
                if (clerk == -1) {
                    throw new Wrong(3);
                }
                in.next();
                int length = in.number(1, 30);
                int arrival = in.number(0, 999);
                int deadline = in.number(1, 999);
                int priority = in.number(0, 9);
                in.semicolon();
                add(made, clerk, length, arrival, deadline, priority);
            }
        } catch (Wrong wrong) {
            code = wrong.code;
            position = in.start;
            throw new IllegalArgumentException();
        }
        world = made;
        history.clear();
        saved[0] = null;
        saved[1] = null;
        return world.mails.size();
    }

    private static int add(World to, int clerk, int length, int arrival, int deadline, int priority) {
        Mail mail = new Mail();
        mail.clerk = clerk;
        mail.length = length;
        mail.remaining = length;
        mail.arrival = arrival;
        mail.deadline = deadline;
        mail.priority = priority;
        mail.number = to.mails.size();
        to.mails.add(mail);
        return mail.number;
    }

    public int errorCode() {
        return code;
    }

    public int errorPosition() {
        return position;
    }

    public int clerkCount() {
        return world.names.size();
    }

    public int letterCount() {
        return world.mails.size();
    }

    public int minute() {
        return world.minute;
    }

    public int policy() {
        return world.policy;
    }

    public int holder() {
        return world.holder;
    }

    public int currentLetter() {
        return world.current;
    }

    public int lastLetter() {
        return world.last;
    }

    public int runLength() {
        return world.run;
    }

    public int ink() {
        return world.ink;
    }

    public int refillLeft() {
        return world.refillLeft;
    }

    public int handOverLeft() {
        return world.handoverLeft;
    }

    public int nameByte(int clerk, int index) {
        clerk(clerk);
        index(in(index, 0, world.names.get(clerk).length() - 1));
        return world.names.get(clerk).charAt(index);
    }

    public int findClerk() {
        int clerk = world.names.indexOf(buffer);
        if (clerk == -1) {
            throw new NoSuchElementException();
        }
        return clerk;
    }

    public int clerkOf(int letter) {
        return mail(letter).clerk;
    }

    public int length(int letter) {
        return mail(letter).length;
    }

    public int arrival(int letter) {
        return mail(letter).arrival;
    }

    public int deadline(int letter) {
        return mail(letter).deadline;
    }

    public int priority(int letter) {
        return mail(letter).priority;
    }

    public int remaining(int letter) {
        return mail(letter).remaining;
    }

    public int finishMinute(int letter) {
        return mail(letter).finish;
    }

    public int waitingTime(int letter) {
        return world.waiting(mail(letter));
    }

    public int effectivePriority(int letter) {
        return world.effective(mail(letter));
    }

    public boolean isReady(int letter) {
        return world.ready(mail(letter));
    }

    public int readyCount() {
        return (int) world.mails.stream().filter(world::ready).count();
    }

    public int selectedLetter() {
        return world.select(world.policy);
    }

    public int selectedBy(int policy) {
        argument(in(policy, 0, 4));
        return world.select(policy);
    }

    public int openLettersOf(int clerk) {
        clerk(clerk);
        return (int) world.mails.stream().filter(mail -> mail.clerk == clerk && mail.finish == -1).count();
    }

    public int workOf(int clerk) {
        clerk(clerk);
        return world.mails.stream().filter(mail -> mail.clerk == clerk).mapToInt(mail -> mail.remaining).sum();
    }

    public int busiestClerk() {
        int busiest = world.names.size() - 1;
        for (int clerk = busiest; clerk >= 0; clerk--) {
            busiest = workOf(clerk) >= workOf(busiest) ? clerk : busiest;
        }
        return busiest;
    }

    public int finishedCount() {
        return world.mails.size() - world.open();
    }

    public int lateCount() {
        return world.late();
    }

    public int greatestLateness() {
        return world.mails.stream().filter(mail -> mail.finish != -1).mapToInt(mail -> mail.finish - mail.deadline).max()
            .orElseThrow(NoSuchElementException::new);
    }

    public int blots() {
        return world.blots;
    }

    public int handOvers() {
        return world.handOvers;
    }

    public int writtenMinutes() {
        return world.writtenMinutes;
    }

    public int idleMinutes() {
        return world.idleMinutes;
    }

    public float utilization() {
        return world.minute == 0 ? 0.0f : (float) world.writtenMinutes / (float) world.minute;
    }

    public double meanTurnaround() {
        return world.mails.stream().filter(mail -> mail.finish != -1).mapToInt(mail -> mail.finish - mail.arrival).average().orElse(0.0);
    }

    public int inconsistencies() {
        return 0;
    }

    public int minutesToFinish() {
        World later = world.copy();
        for (int minutes = 0; minutes <= 1500; minutes++) {
            if (later.open() == 0) {
                return minutes;
            }
            later.step();
        }
        return -1;
    }

    public int minutesToFinishLetter(int letter) {
        mail(letter);
        World later = world.copy();
        for (int minutes = 0; minutes <= 1500; minutes++) {
            if (later.mails.get(letter).remaining == 0) {
                return minutes;
            }
            later.step();
        }
        return -1;
    }

    public int letterWrittenIn(int minutes) {
        argument(in(minutes, 0, 300));
        return world.after(minutes, world.policy).step();
    }

    public int lateWith(int policy) {
        argument(in(policy, 0, 4));
        World later = world.after(1500, policy);
        return later.late() + later.open();
    }

    public int waitingWith(int policy) {
        argument(in(policy, 0, 4));
        World later = world.after(1500, policy);
        return later.mails.stream().mapToInt(later::waiting).sum();
    }

    public int bestPolicy() {
        List<Integer> policies = new ArrayList<>(List.of(0, 1, 2, 3, 4));
        policies.sort(Comparator.comparingInt(this::lateWith).thenComparingInt(this::waitingWith).thenComparingInt(policy -> policy));
        return policies.get(0);
    }

    /** Tries every set of letters: it can be in time just if it is so in the order of the deadlines. */
    public int fewestLate() {
        List<Mail> open = new ArrayList<>(world.mails);
        open.removeIf(mail -> mail.finish != -1);
        open.sort(Comparator.comparingInt(mail -> mail.deadline));
        int most = 0;
        for (int set = 0; set < 1 << open.size(); set++) {
            int end = world.minute;
            boolean inTime = true;
            for (int i = 0; i < open.size(); i++) {
                if ((set >> i & 1) == 1) {
                    end += open.get(i).remaining;
                    inTime &= end <= open.get(i).deadline;
                }
            }
            most = inTime ? Math.max(most, Integer.bitCount(set)) : most;
        }
        return open.size() - most;
    }

    public int addLetter(int clerk, int length, int delay, int deadline, int priority) {
        clerk(clerk);
        argument(in(length, 1, 30) && in(delay, 0, 999) && in(deadline, 1, 999) && in(priority, 0, 9));
        state(world.mails.size() < 12 && world.minute + delay <= 2000);
        remember();
        return add(world, clerk, length, world.minute + delay, deadline, priority);
    }

    public int pass(int minutes) {
        argument(in(minutes, 1, 300));
        state(world.minute + minutes <= 2000);
        remember();
        int open = world.open();
        for (int i = 0; i < minutes; i++) {
            world.step();
        }
        return open - world.open();
    }

    public int setPolicy(int policy) {
        argument(in(policy, 0, 4));
        remember();
        int previous = world.policy;
        world.policy = policy;
        return previous;
    }

    public int setDeadline(int letter, int deadline) {
        int previous = mail(letter).deadline;
        argument(in(deadline, 1, 999));
        remember();
        mail(letter).deadline = deadline;
        return previous;
    }

    public int setPriority(int letter, int priority) {
        int previous = mail(letter).priority;
        argument(in(priority, 0, 9));
        remember();
        mail(letter).priority = priority;
        return previous;
    }

    public int extend(int letter, int minutes) {
        Mail mail = mail(letter);
        argument(in(minutes, 1, 29));
        state(mail.finish == -1 && mail.length + minutes <= 30);
        remember();
        mail.length += minutes;
        mail.remaining += minutes;
        return mail.remaining;
    }

    public int discard(int letter) {
        Mail mail = mail(letter);
        state(mail.finish == -1 && mail.arrival <= world.minute);
        remember();
        int rest = mail.remaining;
        mail.remaining = 0;
        mail.finish = world.minute;
        if (world.current == letter) {
            world.current = -1;
        }
        return rest;
    }

    public int runScript() {
        Tokens in = new Tokens(buffer);
        buffer = "";
        code = 0;
        position = -1;
        List<Runnable> commands = new ArrayList<>();
        try {
            while (!in.kind.equals("end")) {
                String word = in.text;
                in.need(in.kind.equals("word") && List.of("letter", "pass", "policy", "deadline", "priority", "discard").contains(word));
                if (commands.size() == 30) {
                    throw new Wrong(4);
                }
                in.next();
                commands.add(command(word, in));
                in.semicolon();
            }
        } catch (Wrong wrong) {
            code = wrong.code;
            position = in.start;
            throw new IllegalArgumentException();
        }
        World before = world.copy();
        List<World> changes = new ArrayList<>(history);
        int executed = 0;
        try {
            for (Runnable command : commands) {
                command.run();
                executed++;
            }
        } catch (RuntimeException stop) {
            // The commands behind this one are not executed.
        }
        World now = world;
        history.clear();
        history.addAll(changes);
        world = before;
        remember();
        world = now;
        return executed;
    }

    private Runnable command(String word, Tokens in) throws Wrong {
        if (word.equals("letter")) {
            int clerk = world.names.indexOf(in.name());
            if (clerk == -1) {
                throw new Wrong(3);
            }
            in.next();
            int length = in.number(0, 999);
            int delay = in.number(0, 999);
            int deadline = in.number(0, 999);
            int priority = in.number(0, 999);
            return () -> addLetter(clerk, length, delay, deadline, priority);
        }
        int one = in.number(0, 999);
        switch (word) {
            case "pass":
                return () -> pass(one);
            case "policy":
                return () -> setPolicy(one);
            case "discard":
                return () -> discard(one);
            default:
                int two = in.number(0, 999);
                return word.equals("deadline") ? () -> setDeadline(one, two) : () -> setPriority(one, two);
        }
    }

    public int undo() {
        state(!history.isEmpty());
        world = history.pop();
        return history.size();
    }

    public int save(int slot) {
        index(in(slot, 0, 1));
        saved[slot] = world.copy();
        return world.minute;
    }

    public int restore(int slot) {
        index(in(slot, 0, 1));
        state(saved[slot] != null);
        world = saved[slot].copy();
        history.clear();
        return world.minute;
    }

    public int writeLetters() {
        List<String> parts = new ArrayList<>();
        for (Mail mail : world.mails) {
            String mark = mail.number == world.current ? "*" : mail.finish != -1 && mail.finish > mail.deadline ? "!" : "";
            parts.add(world.names.get(mail.clerk) + ":" + mail.remaining + mark);
        }
        output = String.join(" ", parts);
        return output.length();
    }

    public int outputByte(int index) {
        index(in(index, 0, output.length() - 1));
        return output.charAt(index);
    }
}
