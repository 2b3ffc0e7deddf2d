import java.lang.reflect.Constructor;
import java.lang.reflect.Field;
import java.lang.reflect.Method;
import java.lang.reflect.Modifier;
import java.util.Arrays;
import java.util.Set;
import java.util.TreeSet;

/** The face of the document, and the rules of LANGUAGE.md that reflection can see. */
public final class FaceTest {
    private static final String INDEX = "throws IndexOutOfBoundsException";
    private static final String ARGUMENT = "throws IllegalArgumentException";
    private static final String STATE = "throws IllegalStateException";
    private static final String ELEMENT = "throws NoSuchElementException";
    private static final String[] FACE = {
        "int append(int, int, int, int, int) " + STATE, "int truncate(int) " + ARGUMENT, "int load() " + ARGUMENT,
        "int errorCode()", "int errorPosition()", "int clerkCount()", "int letterCount()", "int minute()", "int policy()",
        "int holder()", "int currentLetter()", "int lastLetter()", "int runLength()", "int ink()", "int refillLeft()",
        "int handOverLeft()", "int nameByte(int, int) " + INDEX, "int findClerk() " + ELEMENT, "int clerkOf(int) " + INDEX,
        "int length(int) " + INDEX, "int arrival(int) " + INDEX, "int deadline(int) " + INDEX, "int priority(int) " + INDEX,
        "int remaining(int) " + INDEX, "int finishMinute(int) " + INDEX, "int waitingTime(int) " + INDEX,
        "int effectivePriority(int) " + INDEX, "boolean isReady(int) " + INDEX, "int readyCount()", "int selectedLetter()",
        "int selectedBy(int) " + ARGUMENT, "int openLettersOf(int) " + INDEX, "int workOf(int) " + INDEX, "int busiestClerk()",
        "int finishedCount()", "int lateCount()", "int greatestLateness() " + ELEMENT, "int blots()", "int handOvers()",
        "int writtenMinutes()", "int idleMinutes()", "float utilization()", "double meanTurnaround()", "int inconsistencies()",
        "int minutesToFinish()", "int minutesToFinishLetter(int) " + INDEX, "int letterWrittenIn(int) " + ARGUMENT,
        "int lateWith(int) " + ARGUMENT, "int waitingWith(int) " + ARGUMENT, "int bestPolicy()", "int fewestLate()",
        "int addLetter(int, int, int, int, int) " + INDEX + " " + ARGUMENT + " " + STATE,
        "int pass(int) " + ARGUMENT + " " + STATE, "int setPolicy(int) " + ARGUMENT,
        "int setDeadline(int, int) " + INDEX + " " + ARGUMENT, "int setPriority(int, int) " + INDEX + " " + ARGUMENT,
        "int extend(int, int) " + INDEX + " " + ARGUMENT + " " + STATE, "int discard(int) " + INDEX + " " + STATE,
        "int runScript() " + ARGUMENT, "int undo() " + STATE, "int save(int) " + INDEX, "int restore(int) " + INDEX + " " + STATE,
        "int writeLetters()", "int outputByte(int) " + INDEX,
    };

    public static void main(String[] args) throws Exception {
        Testing t = new Testing("FaceTest");
        t.due("NONE", PenOffice.NONE, -1);
        t.due("the modifiers of the class", PenOffice.class.getModifiers(), Modifier.PUBLIC | Modifier.FINAL);
        t.due("the superclass", PenOffice.class.getSuperclass(), Object.class);
        t.due("the interfaces", PenOffice.class.getInterfaces().length, 0);
        t.due("the public methods", publicMethods(), new TreeSet<>(Arrays.asList(FACE)));
        t.due("the public fields", publicFields(), Set.of("NONE"));
        t.due("the constructors", PenOffice.class.getDeclaredConstructors().length, 1);
        Constructor<?> made = PenOffice.class.getDeclaredConstructors()[0];
        t.due("the constructor", made.getModifiers() + " " + made.getParameterCount() + " " + made.getExceptionTypes().length, "1 0 0");
        nothingElseIsSeen(t);
        classesInside(t);
        t.end();
    }

    private static Set<String> publicMethods() {
        Set<String> found = new TreeSet<>();
        for (Method method : PenOffice.class.getDeclaredMethods()) {
            if (!Modifier.isPublic(method.getModifiers())) {
                continue;
            }
            String modifiers = method.getModifiers() == Modifier.PUBLIC ? "" : Modifier.toString(method.getModifiers()) + " ";
            StringBuilder line = new StringBuilder(modifiers + method.getReturnType().getSimpleName() + " " + method.getName());
            line.append(names(method.getParameterTypes(), "(", ", ")).append(')');
            for (Class<?> thrown : method.getExceptionTypes()) {
                line.append(" throws ").append(thrown.getSimpleName());
            }
            found.add(line.toString());
        }
        return found;
    }

    private static String names(Class<?>[] types, String before, String between) {
        StringBuilder line = new StringBuilder(before);
        for (int i = 0; i < types.length; i++) {
            line.append(i > 0 ? between : "").append(types[i].getSimpleName());
        }
        return line.toString();
    }

    private static Set<String> publicFields() {
        Set<String> found = new TreeSet<>();
        for (Field field : PenOffice.class.getDeclaredFields()) {
            if (Modifier.isPublic(field.getModifiers())) {
                found.add(field.getName());
            }
        }
        return found;
    }

    private static void nothingElseIsSeen(Testing t) {
        Set<String> faceNames = new TreeSet<>();
        for (String line : FACE) {
            faceNames.add(line.substring(line.indexOf(' ') + 1, line.indexOf('(')));
        }
        for (Method method : PenOffice.class.getDeclaredMethods()) {
            int modifiers = method.getModifiers();
            t.due(method + " is public or private", Modifier.isPublic(modifiers) || Modifier.isPrivate(modifiers), true);
            t.due(method + " is private and bears a public name",
                Modifier.isPrivate(modifiers) && faceNames.contains(method.getName()), false);
            t.due(method + " has at most seven parameters", method.getParameterCount() <= 7, true);
        }
        for (Field field : PenOffice.class.getDeclaredFields()) {
            int modifiers = field.getModifiers();
            t.due(field + " is public or private", Modifier.isPublic(modifiers) || Modifier.isPrivate(modifiers), true);
        }
    }

    private static void classesInside(Testing t) {
        Class<?>[] inside = PenOffice.class.getDeclaredClasses();
        t.due("at most twelve classes stand in the file", inside.length + 1 <= 12, true);
        for (Class<?> one : inside) {
            t.due(one + " is private and static", one.getModifiers() & (Modifier.PRIVATE | Modifier.STATIC),
                Modifier.PRIVATE | Modifier.STATIC);
            int fields = 0;
            for (Field field : one.getDeclaredFields()) {
                boolean fixed = Modifier.isStatic(field.getModifiers());
                t.due(field + " is final if static", !fixed || Modifier.isFinal(field.getModifiers()), true);
                fields += fixed ? 0 : 1;
            }
            t.due(one + " has at most twenty fields", fields <= 20, true);
        }
    }
}
