import java.io.IOException;
import java.lang.management.ManagementFactory;
import java.lang.reflect.Executable;
import java.lang.reflect.Field;
import java.lang.reflect.InvocationTargetException;
import java.lang.reflect.Method;
import java.lang.reflect.Modifier;
import java.nio.file.Files;
import java.nio.file.Path;
import java.util.ArrayList;
import java.util.List;
import java.util.NoSuchElementException;
import java.util.Set;
import java.util.TreeSet;
import java.util.regex.Matcher;
import java.util.regex.Pattern;

/** The rules of LANGUAGE.md that can be looked at: the face, its inner classes, the source, the room. */
public final class RulesTest {
    private static final Set<String> FACE = Set.of(
            "int feed(int,int,int,int,int)", "boolean end(int)", "int fault(int)", "int text(int)",
            "int rule(int)", "int sample(int)", "int peak(int,int)", "int basin(int,int)", "int at(int,int)",
            "int line(int,int)", "int smooth()", "int median()", "int flat()", "int turn()", "int clip(int)",
            "int lift(int)", "int scale(int,int)", "int set(int,int)", "int noise(int)", "int cut(int,int)",
            "int ways(int,long)", "int status(int)", "int undo()", "int log(int,int)", "int noiseFor(int)",
            "int pieces(int)", "int room(int)", "int unlike()", "int shift(int)", "int missed()",
            "int would(int,int,int)", "int solo()", "int tallest(int)", "int change(int)", "int spell(int,int)",
            "int step(int,int,int)", "int run(int,int)", "int perform(int)", "int most(int)", "int image()",
            "int back()", "int held(int)");

    private RulesTest() {
    }

    public static void main(String[] args) throws IOException {
        face();
        innerClasses();
        source(Files.readString(Path.of(args[0])));
        anyArguments();
        counters();
        room();
        Checks.close("RulesTest");
    }

    private static void due(String what, boolean right) {
        Checks.due(what, right, true);
    }

    private static List<Class<?>> classes() {
        List<Class<?>> all = new ArrayList<>(List.of(TracePeaks.class));
        for (int i = 0; i < all.size(); i++) {
            all.addAll(List.of(all.get(i).getDeclaredClasses()));
        }
        return all;
    }

    private static void face() {
        Set<String> names = new TreeSet<>();
        Set<String> told = new TreeSet<>();
        for (Method method : TracePeaks.class.getDeclaredMethods()) {
            if (Modifier.isPublic(method.getModifiers())) {
                names.add(method.getName());
                told.add(signature(method));
            }
        }
        due("the face is " + told, told.equals(FACE));
        due("the class is public and final", TracePeaks.class.getModifiers() == (Modifier.PUBLIC | Modifier.FINAL));
        due("one constructor", TracePeaks.class.getDeclaredConstructors().length == 1);
        for (Method method : TracePeaks.class.getDeclaredMethods()) {
            int modifiers = method.getModifiers();
            due(method + " is public or private", Modifier.isPublic(modifiers) || Modifier.isPrivate(modifiers));
        }
        for (Class<?> one : classes()) {
            for (Method method : one.getDeclaredMethods()) {
                boolean ofFace = one == TracePeaks.class && Modifier.isPublic(method.getModifiers());
                due(method + " bears no public name", ofFace || !names.contains(method.getName()));
            }
        }
        Set<String> constants = new TreeSet<>();
        for (Field field : TracePeaks.class.getDeclaredFields()) {
            int modifiers = field.getModifiers();
            if (!Modifier.isPrivate(modifiers)) {
                constants.add(Modifier.toString(modifiers) + " " + field.getName());
            }
        }
        due("constants " + constants, constants.equals(Set.of("public static final NONE", "public static final HIDDEN")));
    }

    private static String signature(Method method) {
        StringBuilder told = new StringBuilder(method.getReturnType() + " " + method.getName() + "(");
        for (Class<?> type : method.getParameterTypes()) {
            told.append(told.charAt(told.length() - 1) == '(' ? "" : ",").append(type);
        }
        return told.append(')').toString();
    }

    private static void innerClasses() {
        due("some twelve classes", classes().size() <= 12);
        for (Class<?> one : classes()) {
            int fields = 0;
            for (Field field : one.getDeclaredFields()) {
                boolean isStatic = Modifier.isStatic(field.getModifiers());
                fields += isStatic ? 0 : 1;
                due(field + " is final if static", !isStatic || Modifier.isFinal(field.getModifiers()));
            }
            due(one + " has some twenty fields", fields <= 20);
            List<Executable> all = new ArrayList<>(List.of(one.getDeclaredMethods()));
            all.addAll(List.of(one.getDeclaredConstructors()));
            for (Executable method : all) {
                due(method + " takes seven at most", method.getParameterCount() <= 7);
            }
            if (one != TracePeaks.class) {
                int modifiers = one.getModifiers();
                due(one + " is static", Modifier.isStatic(modifiers));
                due(one + " is private or package-visible", !Modifier.isPublic(modifiers) && !Modifier.isProtected(modifiers));
            }
        }
    }

    private static void source(String text) {
        String code = text.replaceAll("(?s)/\\*.*?\\*/", "").replaceAll("//[^\n]*", "");
        String[] never = {"->", "::", "\\bcatch\\b", "\\bfinally\\b", "\\bsynchronized\\b", "\\bassert\\b", "^package",
            "\\bstatic\\s*\\{", "\\bString\\.(format|valueOf)", "Exact\\(", "\\bprotected\\b", "\\bObject\\b",
            "\\bequals\\(", "\\bhashCode\\(", "\\btoString\\(", "\\bRandom\\b", "\"\\s*\\+", "\\+\\s*\"",
            "\\bMath\\.(?!min|max|abs|floorDiv|floorMod)", "\\bSystem\\.(?!arraycopy)"};
        for (String part : never) {
            due("the source has no " + part, !Pattern.compile(part, Pattern.MULTILINE).matcher(code).find());
        }
        Matcher imports = Pattern.compile("(?m)^import (.*);").matcher(code);
        while (imports.find()) {
            due("import " + imports.group(1), imports.group(1).equals("java.util.NoSuchElementException"));
        }
        int start = 0;
        String[] lines = text.split("\n");
        for (int i = 0; i < lines.length; i++) {
            if (lines[i].matches("    (    )?\\S.*\\{")) {
                start = i;
            }
            boolean ofClass = lines[start].contains("class ");
            if (lines[i].matches("    (    )?\\}")) {
                due("line " + (i + 1) + ": sixty lines at most", ofClass || i - start <= 60);
            }
            due("line " + (i + 1) + " is of signs 1 to 127", lines[i].chars().allMatch(c -> c < 128));
        }
    }

    // No call throws by itself, whatever it is given in whatever state.

    private static final int[] NUMBERS = {Integer.MIN_VALUE, Integer.MIN_VALUE + 1, -1000, -999, -1, 0, 1, 7, 8, 40, 47, 48, 99,
        999, 1000, Integer.MAX_VALUE - 1, Integer.MAX_VALUE};

    private static TracePeaks state(int sort) {
        TracePeaks x = new TracePeaks();
        if (sort > 0) {
            Checks.write(x, sort == 1 ? "trace 7" : TRACE).text(0);
        }
        if (sort > 2) {
            x.image();
            x.ways(40, 5);
            for (int i = 0; i < 4; i++) {
                Checks.script(x, "set 47 999;cut 40 8;lift -999;scale 99 1;noise -1");
            }
            Checks.write(x, TRACE);
        }
        return x;
    }

    private static void anyArguments() {
        for (Method method : TracePeaks.class.getDeclaredMethods()) {
            if (Modifier.isPublic(method.getModifiers())) {
                for (int sort = 0; sort < 4; sort++) {
                    anyArguments(method, sort);
                }
            }
        }
    }

    private static void anyArguments(Method method, int sort) {
        int many = method.getParameterCount();
        int runs = 1;
        for (int i = 0; i < many; i++) {
            runs *= many > 3 && i > 1 ? 2 : NUMBERS.length;
        }
        TracePeaks x = state(sort);
        for (int run = 0; run < runs; run++) {
            // An object is used for some 500 calls.
            x = run % 400 == 399 ? state(sort) : x;
            Object[] arguments = new Object[many];
            int left = run;
            for (int i = 0; i < many; i++) {
                int number = NUMBERS[left % NUMBERS.length];
                left /= many > 3 && i > 1 ? 2 : NUMBERS.length;
                if (method.getParameterTypes()[i] == long.class) {
                    arguments[i] = number < -1000 || number > 1000 ? Long.MAX_VALUE - number : (long) number;
                } else {
                    arguments[i] = number;
                }
            }
            due(method.getName() + List.of(arguments) + " of state " + sort + " throws nothing of its own", answers(x, method, arguments));
        }
    }

    private static boolean answers(TracePeaks x, Method method, Object[] arguments) {
        try {
            method.invoke(x, arguments);
            return true;
        } catch (InvocationTargetException e) {
            return method.getName().equals("peak") && e.getCause() instanceof NoSuchElementException;
        } catch (IllegalAccessException e) {
            return false;
        }
    }

    // No number that the object holds grows with its acts without an end: one that goes round to below 0
    // would be no index. What STATUS counts is free to, as nothing is looked up by it.

    private static final Set<String> FREE_TO_GROW = Set.of("refusedPlaces", "refusedBounds");

    private static void counters() {
        TracePeaks x = state(3);
        for (int i = 0; i < 100; i++) {
            x.ways(40, i);
            x.image();
            x.undo();
        }
        try {
            counters(x, "TracePeaks", 0);
        } catch (IllegalAccessException e) {
            due("the fields can be looked at", false);
        }
    }

    private static void counters(Object one, String path, int depth) throws IllegalAccessException {
        for (Field field : one.getClass().getDeclaredFields()) {
            if (Modifier.isStatic(field.getModifiers())) {
                continue;
            }
            field.setAccessible(true);
            String told = path + "." + field.getName();
            if (field.getType() == int.class) {
                int value = field.getInt(one);
                boolean bounded = value >= -999 && value <= 999;
                due(told + " is " + value + " after 4000 acts", bounded || FREE_TO_GROW.contains(field.getName()));
            } else if (field.get(one) instanceof Object[] rows) {
                for (Object row : rows) {
                    counters(row, told + "[]", depth + 1);
                }
            } else if (field.getType().getDeclaringClass() == TracePeaks.class && depth < 4) {
                counters(field.get(one), told, depth + 1);
            }
        }
    }

    // The room.

    private static final com.sun.management.ThreadMXBean COUNTER =
            (com.sun.management.ThreadMXBean) ManagementFactory.getThreadMXBean();

    private static long allocated() {
        return COUNTER.getCurrentThreadAllocatedBytes();
    }

    private static final String TRACE =
            "trace 1 9 2 8 3 7 4 6 5 9 1 8 2 7 3 6 4 5 1 9 2 8 3 7 4 6 5 9 1 8 2 7 3 6 4 5 1 9 2 8 3 7 4 6 5 9 1 8;line a 3;line b 7";

    private static void room() {
        TracePeaks x = Checks.traced(TRACE);
        Checks.script(x, "lift 3;flat;turn;smooth;median;noise 1;cut 0 40;set 3 9;scale 5 4;clip 900");
        Checks.write(x, TRACE);
        for (int i = 0; i < 2000; i++) {
            everyCall(x, i);
        }
        // The machine itself may make something at times: the least of several is the program's own.
        long least = Long.MAX_VALUE;
        long made = Long.MAX_VALUE;
        for (int i = 0; i < 10; i++) {
            long before = allocated();
            everyCall(x, i);
            least = Math.min(least, allocated() - before);
            before = allocated();
            new TracePeaks();
            made = Math.min(made, allocated() - before);
        }
        due("calls make objects of " + least + " bytes", least == 0);
        due("a new object takes " + made + " bytes", made < 30000);
    }

    private static int everyCall(TracePeaks x, int i) {
        int sum = x.fault(0) + x.fault(1) + x.feed(0, 0, 0, 0, 0) + (x.end(x.held(2)) ? 1 : 0) + x.text(2);
        sum += x.rule(i % 8) + x.sample(i % 48) + x.peak(0, i % 9) + x.basin(0, i % 4) + x.at(i % 48, i % 2) + x.line(0, i % 3);
        sum += x.image() + x.smooth() + x.median() + x.flat() + x.turn() + x.clip(999) + x.lift(1) + x.scale(3, 2);
        sum += x.set(3, i % 1000) + x.noise(i % 9) + x.cut(0, x.held(0)) + x.ways(40, i) + x.status(0) + x.undo() + x.log(0, 0);
        sum += x.noiseFor(3) + x.pieces(5) + x.room(i % 2) + x.unlike() + x.shift(i % 2) + x.missed() + x.would(3, 5, i % 3);
        sum += x.solo() + x.tallest(1) + x.change(i % 2) + x.spell(0, i % 9 - 1) + x.step(0, i % 10, i % 3) + x.run(0, i % 2);
        return sum + x.perform(0) + x.most(i % 8) + x.back() + x.held(i % 5);
    }
}
