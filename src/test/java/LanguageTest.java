import java.io.IOException;
import java.lang.reflect.Array;
import java.lang.reflect.Constructor;
import java.lang.reflect.Field;
import java.lang.reflect.Member;
import java.lang.reflect.Method;
import java.lang.reflect.Modifier;
import java.nio.file.Files;
import java.nio.file.Path;
import java.util.ArrayList;
import java.util.Arrays;
import java.util.Collections;
import java.util.IdentityHashMap;
import java.util.List;
import java.util.Set;
import java.util.TreeSet;
import java.util.regex.Matcher;
import java.util.regex.Pattern;

/** The rules of LANGUAGE.md that can be seen in the compiled class or in the text. */
public final class LanguageTest {
    private static final String FACE = "again() check() compare(int) copy(int,int,int,int,int) count(int)"
            + " act(int,int) edge(int,int,int,int) empty(int) end(int) fetch(int,int,int) fewest(int)"
            + " filled(int,int) first(int,long) forge(int,int) get(int,int) lay() laying(int) lowest()"
            + " names(int) number(int) pick(int,int,int,int) prove(int) put(long)"
            + " reckon(int,int,int,int,int) row(int,int,boolean) run(int,boolean) set(int,int,long)"
            + " status(int) store(int,int,int,int,int) tick(int,int) told(int) trials() undo()"
            + " unit(int,int) whole() works(int,int,int,int) wrong(int)";
    private static final Set<String> LONGS = Set.of("number", "get", "end");

    /** Of one run's room: elements in all, and calls, each of which might make an object. */
    private static final int ROOM = 7_300_000;
    private static final int CALLS = 512;

    public static void main(String[] args) throws IOException, IllegalAccessException {
        theFaceIsTheDocuments();
        theClassesInside();
        theRoom();
        theText(Files.readString(Path.of(args[0], "src/main/java/LoopLane.java")));
        Due.finish("LanguageTest");
    }

    private static String shape(Method m) {
        List<String> types = new ArrayList<>();
        for (Class<?> type : m.getParameterTypes()) {
            types.add(type.getSimpleName());
        }
        return m.getName() + "(" + String.join(",", types) + ")";
    }

    private static boolean isPrivate(Member m) {
        return Modifier.isPrivate(m.getModifiers()) || m.isSynthetic();
    }

    private static void theFaceIsTheDocuments() {
        Set<String> seen = new TreeSet<>();
        for (Method m : LoopLane.class.getDeclaredMethods()) {
            if (!isPrivate(m)) {
                seen.add(shape(m));
                Due.holds("1: " + m + " is public", Modifier.isPublic(m.getModifiers()));
                Due.holds("1: what " + m + " answers", m.getReturnType() == (LONGS.contains(m.getName()) ? long.class : int.class));
            }
        }
        Set<String> want = new TreeSet<>(Arrays.asList(FACE.split(" ")));
        Due.holds("1: the face is " + want + ", not " + seen, seen.equals(want));
        int constants = 0;
        for (Field f : LoopLane.class.getDeclaredFields()) {
            constants += isPrivate(f) ? 0 : 1;
        }
        Due.due("1: constants", constants, 11);
        Constructor<?>[] makers = LoopLane.class.getDeclaredConstructors();
        Due.due("1: constructors", makers.length, 1);
        Due.holds("1: final", Modifier.isFinal(LoopLane.class.getModifiers()));
    }

    private static void theClassesInside() {
        Class<?>[] inside = LoopLane.class.getDeclaredClasses();
        Due.holds("11: twelve classes at most", inside.length + 1 <= 12);
        List<Class<?>> all = new ArrayList<>(Arrays.asList(inside));
        all.add(LoopLane.class);
        Set<String> face = new TreeSet<>();
        for (String shape : FACE.split(" ")) {
            face.add(shape.substring(0, shape.indexOf('(')));
        }
        for (Class<?> c : all) {
            Due.holds("2: " + c + " is static", c == LoopLane.class || Modifier.isStatic(c.getModifiers()));
            int fields = 0;
            for (Field f : c.getDeclaredFields()) {
                boolean isStatic = Modifier.isStatic(f.getModifiers());
                Due.holds("5: " + f + " is final", !isStatic || Modifier.isFinal(f.getModifiers()));
                fields += isStatic ? 0 : 1;
            }
            Due.holds("11: twenty fields at most in " + c, fields <= 20);
            for (Method m : c.getDeclaredMethods()) {
                Due.holds("11: seven parameters at most in " + m, m.getParameterCount() <= 7);
                boolean own = c == LoopLane.class && !isPrivate(m);
                Due.holds("1: " + m + " bears a name of its own", own || !face.contains(m.getName()));
            }
        }
    }

    private static void theRoom() throws IllegalAccessException {
        Set<Object> seen = Collections.newSetFromMap(new IdentityHashMap<>());
        int elements = elementsOf(new LoopLane(), seen);
        Due.holds("12: room for 512 objects of " + elements, elements * CALLS <= ROOM);
        Due.holds("12: not too many arrays: " + seen.size(), seen.size() * CALLS <= 600_000);
    }

    /** Fields and elements of an object and of all that it holds. */
    private static int elementsOf(Object held, Set<Object> seen) throws IllegalAccessException {
        if (held == null || !seen.add(held)) {
            return 0;
        }
        if (held.getClass().isArray()) {
            Due.holds("3: arrays of numbers", held.getClass().getComponentType().isPrimitive());
            return Array.getLength(held);
        }
        int elements = 0;
        for (Field f : held.getClass().getDeclaredFields()) {
            if (!Modifier.isStatic(f.getModifiers())) {
                f.setAccessible(true);
                elements += 1 + (f.getType().isPrimitive() ? 0 : elementsOf(f.get(held), seen));
            }
        }
        return elements;
    }

    private static void theText(String text) {
        String code = text.replaceAll("(?s)/\\*.*?\\*/", "").replaceAll("//[^\n]*", "");
        for (String word : "throw try catch synchronized assert package while do Exact Object".split(" ")) {
            Matcher found = Pattern.compile("\\b" + word + "\\b").matcher(code);
            Due.holds("6: no " + word, !found.find());
        }
        Matcher calls = Pattern.compile("\\b(Math|Integer|Long|System|Arrays)\\.(\\w+)").matcher(code);
        Set<String> library = Set.of("Math.max", "Math.min", "Math.floorDiv", "Integer.bitCount", "System.arraycopy", "Arrays.fill");
        while (calls.find()) {
            Due.holds("4: " + calls.group(), library.contains(calls.group()));
        }
        Matcher imports = Pattern.compile("(?m)^import (.*);").matcher(code);
        while (imports.find()) {
            Due.holds("4: import " + imports.group(1), imports.group(1).equals("java.util.Arrays"));
        }
        for (String line : code.split("\n")) {
            boolean made = line.matches("\\s+(private )?final .* = new .*;|\\s+\\w+ = new .*;");
            Due.holds("12: made where an object is made: " + line, made || !line.contains("new "));
        }
        Due.holds("no lambda, no method reference", !code.contains("->") && !code.contains("::"));
        methodsStayShort(code);
    }

    private static void methodsStayShort(String code) {
        int begin = 0;
        String[] lines = code.split("\n");
        for (int i = 0; i < lines.length; i++) {
            if (lines[i].matches("(    |        )\\w[^=;]*\\) \\{")) {
                begin = i;
            } else if (lines[i].matches("(    |        )\\}") && begin > 0) {
                Due.holds("11: sixty lines at most: " + lines[begin], i - begin <= 60);
                begin = 0;
            }
        }
    }
}
