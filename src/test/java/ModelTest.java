import java.lang.reflect.InvocationTargetException;
import java.lang.reflect.Method;
import java.util.ArrayList;
import java.util.Arrays;
import java.util.Comparator;
import java.util.List;
import java.util.Random;

/** Makes the same calls of the class and of the model, drawn with fixed seeds, and compares every answer. */
public final class ModelTest {
    private static final int RUNS = 400;
    private static final int CALLS = 512;
    private static final Testing T = new Testing("ModelTest");

    private final Random random;
    private final PenOffice office = new PenOffice();
    private final Model model = new Model();
    private final List<String> calls = new ArrayList<>();
    private final List<Method> questions = new ArrayList<>();
    private String[] names = {"ann", "bob"};
    private boolean broken;

    private ModelTest(long seed) {
        random = new Random(seed);
        for (Method method : PenOffice.class.getDeclaredMethods()) {
            if (!List.of("append", "load", "runScript").contains(method.getName()) && (method.getModifiers() & 1) == 1) {
                questions.add(method);
            }
        }
        questions.sort(Comparator.comparing(Method::getName));
    }

    public static void main(String[] args) {
        for (int run = 0; run < RUNS; run++) {
            new ModelTest(run).run(run);
        }
        T.end();
    }

    private void run(int run) {
        if (run % 4 > 0) {
            text(setup(), "load");
        }
        while (calls.size() < CALLS - 60 && !broken) {
            int kind = random.nextInt(100);
            if (kind < 3) {
                text(random.nextInt(4) == 0 ? damaged(setup()) : setup(), "load");
            } else if (kind < 9) {
                text(random.nextInt(4) == 0 ? damaged(script()) : script(), "runScript");
            } else if (kind < 11) {
                text(random.nextBoolean() ? pick(names) : damaged(pick(names)), "findClerk");
            } else if (kind < 40) {
                call("pass", small(random.nextInt(10) == 0 ? 300 : 9));
            } else if (kind < 48) {
                call("addLetter", small(names.length), small(30), random.nextInt(3) == 0 ? number(999) : small(9), number(120), small(9));
            } else {
                Method method = questions.get(random.nextInt(questions.size()));
                int[] numbers = new int[method.getParameterCount()];
                for (int i = 0; i < numbers.length; i++) {
                    numbers[i] = number(random.nextInt(3) == 0 ? 300 : 11);
                }
                call(method.getName(), numbers);
            }
        }
        everything();
        T.due("run " + run + (broken ? ": " + String.join("; ", calls) : ""), broken, false);
    }

    private void everything() {
        for (Method method : questions) {
            if (method.getParameterCount() == 0) {
                call(method.getName());
            }
        }
    }

    private <E> E pick(E[] from) {
        return from[random.nextInt(from.length)];
    }

    private int small(int most) {
        return random.nextInt(60) == 0 ? pick(new Integer[] {-1, 0, most + 1}) : random.nextInt(most) + random.nextInt(2);
    }

    private int number(int most) {
        if (random.nextInt(40) == 0) {
            return pick(new Integer[] {-1, 0, 12, 13, 29, 30, 31, 299, 300, 301, 600, 999, 1000, 2000, Integer.MIN_VALUE, Integer.MAX_VALUE});
        }
        return random.nextInt(most + 1);
    }

    /** A number that a text may hold. */
    private int written(int number) {
        return Math.min(Math.abs(Math.max(number, -999)), 999);
    }

    private String blank() {
        return random.nextInt(20) == 0 ? pick(new String[] {"\n", "  ", " \n "}) : " ";
    }

    private String setup() {
        names = new String[2 + random.nextInt(5)];
        for (int i = 0; i < names.length; i++) {
            names[i] = (char) ('a' + i) + pick(new String[] {"", "n", "bobby", "x", "etter"});
        }
        StringBuilder text = new StringBuilder("office");
        int[] least = {0, 0, 1, 0, 1, 1, 0};
        int[] most = {4, 5, random.nextBoolean() ? 99 : 5, 9, random.nextBoolean() ? 9 : 2, random.nextBoolean() ? 20 : 3, 5};
        for (int i = 0; i < 7; i++) {
            boolean low = random.nextInt(4) == 0;
            text.append(blank()).append(low ? least[i] : least[i] + random.nextInt(most[i] - least[i] + 1));
        }
        text.append(";");
        for (String name : names) {
            text.append("clerk").append(blank()).append(name).append(";");
        }
        int letters = random.nextInt(random.nextInt(8) == 0 ? 14 : 10);
        int spread = pick(new Integer[] {1, 5, 20, 60, 999});
        for (int i = 0; i < letters; i++) {
            text.append("letter ").append(pick(names)).append(blank()).append(1 + random.nextInt(random.nextInt(3) == 0 ? 30 : 5))
                .append(" ").append(random.nextInt(spread)).append(" ").append(1 + random.nextInt(random.nextBoolean() ? 60 : 400))
                .append(" ").append(random.nextInt(10)).append(";");
        }
        return text.toString();
    }

    private String script() {
        StringBuilder text = new StringBuilder();
        int commands = random.nextInt(20) == 0 ? 29 + random.nextInt(4) : random.nextInt(8);
        for (int i = 0; i < commands; i++) {
            String word = pick(new String[] {"pass", "pass", "policy", "deadline", "priority", "discard", "letter"});
            text.append(word).append(blank());
            if (word.equals("letter")) {
                text.append(pick(names)).append(" ").append(written(small(30))).append(" ").append(random.nextInt(9)).append(" ")
                    .append(written(small(300))).append(" ").append(written(small(9)));
            } else if (word.equals("deadline") || word.equals("priority")) {
                text.append(random.nextInt(6)).append(" ").append(written(small(9)));
            } else {
                text.append(word.equals("pass") ? written(small(9)) : random.nextInt(word.equals("policy") ? 5 : 6));
            }
            text.append(";");
        }
        return text.toString();
    }

    private String damaged(String text) {
        if (text.isEmpty()) {
            return pick(new String[] {";", " ", "a", "@"});
        }
        int at = random.nextInt(text.length());
        String[] pieces = {"", " ", ";", "a", "z", "clerk c", "letter", "0", "9", "99", "1000", "abcdefg", "abcdefghi", "@", "" + (char) 225, "\t"};
        int end = Math.min(text.length(), at + random.nextInt(4));
        return random.nextInt(6) == 0 ? text.substring(0, at) : text.substring(0, at) + pick(pieces) + text.substring(end);
    }

    /** Types a text into the empty buffer, in which it may not have room, and makes a call. */
    private void text(String text, String method) {
        call("truncate", 0);
        for (int from = 0; from < text.length(); from += 20) {
            String part = text.substring(from, Math.min(from + 20, text.length()));
            String full = part + "\n".repeat(20 - part.length());
            int[] fours = new int[5];
            for (int i = 0; i < 5; i++) {
                fours[i] = Testing.four(full, 4 * i);
            }
            call("append", fours);
        }
        if (text.length() <= 600) {
            call("truncate", text.length());
        }
        call(method);
        call("errorCode");
        call("errorPosition");
    }

    private void call(String name, int... numbers) {
        if (broken || calls.size() >= CALLS) {
            return;
        }
        String want = answer(model, name, numbers);
        String got = answer(office, name, numbers);
        String line = Arrays.toString(numbers);
        calls.add(name + "(" + line.substring(1, line.length() - 1) + ") = " + got);
        if (!got.equals(want)) {
            calls.add("but due is " + want);
            broken = true;
        }
    }

    private static String answer(Object from, String name, int[] numbers) {
        Class<?>[] types = new Class<?>[numbers.length];
        Object[] values = new Object[numbers.length];
        Arrays.fill(types, int.class);
        for (int i = 0; i < numbers.length; i++) {
            values[i] = numbers[i];
        }
        try {
            return String.valueOf(from.getClass().getMethod(name, types).invoke(from, values));
        } catch (InvocationTargetException e) {
            return e.getCause().getClass().getName();
        } catch (ReflectiveOperationException e) {
            throw new AssertionError(e);
        }
    }
}
