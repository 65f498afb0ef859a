import java.io.IOException;
import java.lang.reflect.Array;
import java.lang.reflect.Constructor;
import java.lang.reflect.Field;
import java.lang.reflect.Member;
import java.lang.reflect.Method;
import java.lang.reflect.Modifier;
import java.nio.file.Files;
import java.nio.file.Path;
import java.util.ArrayDeque;
import java.util.Arrays;
import java.util.Collections;
import java.util.Deque;
import java.util.HashSet;
import java.util.IdentityHashMap;
import java.util.Set;
import java.util.TreeSet;
import java.util.regex.Matcher;
import java.util.regex.Pattern;

/** Looks at the class and its source for what ../shared/LANGUAGE.md forbids, as far as a short test can. */
public final class LanguageTest {
    private static final Set<String> LIBRARY = Set.of("Math.abs", "Math.max", "Math.min", "Math.floorDiv",
        "Math.floorMod", "Integer.bitCount", "Integer.numberOfTrailingZeros", "System.arraycopy", "Arrays.fill",
        "Arrays.copyOf", "Arrays.copyOfRange");
    private static final Set<Class<?>> CONSTANTS = Set.of(int.class, long.class, boolean.class, char.class,
        String.class, int[].class, long[].class, char[].class, byte[].class);

    private static int wrong = 0;

    private static void expect(boolean good, String told) {
        if (!good) {
            wrong++;
            System.out.println(told);
        }
    }

    public static void main(String[] args) throws IOException, IllegalAccessException {
        String source = Files.readString(Path.of("src/main/java/NumberDoor.java"));
        lookAtFace(Files.readString(Path.of("../shared/DOC.md")));
        lookAtClasses();
        lookAtWords(bare(source));
        lookAtTexts(source);
        lookAtMethods(bare(source));
        lookAtSize();
        System.out.println(wrong == 0 ? "the source keeps to the language" : wrong + " places do not keep to the language");
        if (wrong != 0) {
            System.exit(1);
        }
    }

    /** Rule 1: the document's face and nothing else that is not private. */
    private static void lookAtFace(String document) {
        String block = document.substring(document.indexOf("public final class"), document.indexOf("## Terms"));
        Set<String> wanted = new TreeSet<>();
        Matcher line = Pattern.compile("public (?:static final )?(?:(\\w+) )?(\\w+)(?: = \\S+|\\(([^)]*)\\));").matcher(block);
        while (line.find()) {
            String takes = line.group(3) == null ? "" : line.group(3).replaceAll(" \\w+(,|$)", "$1");
            wanted.add((line.group(1) == null ? "" : line.group(1) + " ") + line.group(2) + "(" + takes + ")");
        }
        Set<String> found = new TreeSet<>();
        for (Field field : NumberDoor.class.getDeclaredFields()) {
            addMember(found, field, field.getType().getSimpleName() + " " + field.getName() + "()");
        }
        for (Method method : NumberDoor.class.getDeclaredMethods()) {
            addMember(found, method, method.getReturnType().getSimpleName() + " " + method.getName() + "("
                + typesOf(method.getParameterTypes()) + ")");
        }
        for (Constructor<?> constructor : NumberDoor.class.getDeclaredConstructors()) {
            addMember(found, constructor, "NumberDoor(" + typesOf(constructor.getParameterTypes()) + ")");
        }
        expect(wanted.size() == 38, "the document's face has " + wanted.size() + " members");
        expect(wanted.equals(found), "the face is " + found + "\nbut is to be " + wanted);
        int modifiers = NumberDoor.class.getModifiers();
        expect(Modifier.isPublic(modifiers) && Modifier.isFinal(modifiers), "the class is not public and final");
    }

    private static String typesOf(Class<?>[] types) {
        StringBuilder all = new StringBuilder();
        for (Class<?> type : types) {
            all.append(all.length() > 0 ? ", " : "").append(type.getSimpleName());
        }
        return all.toString();
    }

    private static void addMember(Set<String> found, Member member, String told) {
        if (!member.isSynthetic() && !Modifier.isPrivate(member.getModifiers())) {
            found.add(told);
        }
    }

    /** Rules 1, 2, 5, 11: names, nested classes, static fields, counts. */
    private static void lookAtClasses() {
        Set<String> face = new HashSet<>();
        for (Method method : NumberDoor.class.getMethods()) {
            if (method.getDeclaringClass() == NumberDoor.class) {
                face.add(method.getName());
            }
        }
        Class<?>[] nested = NumberDoor.class.getDeclaredClasses();
        expect(nested.length <= 12, "too many classes: " + nested.length);
        lookAtOne(NumberDoor.class);
        for (Class<?> one : nested) {
            expect(Modifier.isStatic(one.getModifiers()), one + " is not static");
            expect(one.getDeclaredClasses().length == 0, one + " has classes inside");
            lookAtOne(one);
            for (Method method : one.getDeclaredMethods()) {
                expect(!face.contains(method.getName()), method + " bears a name of the face");
            }
        }
        for (Method method : NumberDoor.class.getDeclaredMethods()) {
            boolean hidden = Modifier.isPrivate(method.getModifiers());
            expect(!hidden || !face.contains(method.getName()), method + " bears a name of the face");
        }
    }

    private static void lookAtOne(Class<?> one) {
        int fields = 0;
        for (Field field : one.getDeclaredFields()) {
            if (!Modifier.isStatic(field.getModifiers())) {
                fields++;
            } else {
                expect(Modifier.isFinal(field.getModifiers()), field + " is static and not final");
                expect(CONSTANTS.contains(field.getType()), field + " is no constant");
            }
        }
        expect(fields <= 20, one + " has " + fields + " fields");
        for (Method method : one.getDeclaredMethods()) {
            expect(method.getParameterCount() <= 7, method + " takes too much");
        }
    }

    /** The source without comments, and with empty texts and signs. */
    private static String bare(String source) {
        String told = source.replaceAll("(?s)/\\*.*?\\*/", "").replaceAll("//[^\n]*", "");
        return told.replaceAll("\"[^\"\n]*\"", "\"\"").replaceAll("'[^'\n]'", "'.'");
    }

    /** Rules 2, 4, 6, 13: words that don't stand in the language. */
    private static void lookAtWords(String code) {
        Matcher bad = Pattern.compile("\\b(throw|throws|try|catch|synchronized|assert|native|transient|volatile|strictfp|"
            + "yield|var|double|float|Thread|Runtime|Random|Object|Exception|Error|\\w*Exact|nanoTime|currentTimeMillis|"
            + "exit|toString|hashCode|interface|extends|implements|this\\.getClass)\\b|->|::|@").matcher(code);
        while (bad.find()) {
            expect(false, "the source has " + bad.group());
        }
        Matcher load = Pattern.compile("import ([^;]*);").matcher(code);
        while (load.find()) {
            expect(load.group(1).equals("java.util.Arrays"), "the source imports " + load.group(1));
        }
        Matcher call = Pattern.compile("\\b(Math|Integer|Long|Arrays|System|Character|String)\\.\\w+").matcher(code);
        while (call.find()) {
            expect(LIBRARY.contains(call.group()), "the source calls " + call.group());
        }
        expect(!code.contains("package "), "the source has a package");
        expect(!Pattern.compile("while \\(true\\)|for \\(;;\\)").matcher(code).find(), "a loop without an end");
        expect(!Pattern.compile("\"\"\\s*\\+|\\+\\s*\"\"").matcher(code).find(), "texts are joined by +");
    }

    /** Rules 3, 4: signs 1 to 127 alone, no long lines of texts with others. */
    private static void lookAtTexts(String source) {
        for (int i = 0; i < source.length(); i++) {
            char c = source.charAt(i);
            expect(c == '\n' || (c >= 32 && c < 127), "the source has the sign " + (int) c);
        }
    }

    /** Rules 11, 12: short methods; objects are made in constructors alone, so no call makes the room fuller. */
    private static void lookAtMethods(String code) {
        String[] lines = code.split("\n", -1);
        String type = "";
        Pattern typeLine = Pattern.compile("\\bclass (\\w+)");
        Pattern start = Pattern.compile("^(?: {4}| {8})(?:(?:public|private|static|final) )*(?:[\\w\\[\\]]+ )?(\\w+)\\([^;]*\\) \\{$");
        for (int i = 0; i < lines.length; i++) {
            Matcher found = typeLine.matcher(lines[i]);
            type = found.find() ? found.group(1) : type;
            Matcher method = start.matcher(lines[i]);
            if (!method.find()) {
                continue;
            }
            String end = lines[i].replaceAll("\\S.*", "") + "}";
            int to = i;
            while (to < lines.length && !lines[to].equals(end)) {
                boolean makes = Pattern.compile("\\bnew\\b|\\.clone\\(|copyOf").matcher(lines[to]).find();
                expect(!makes || method.group(1).equals(type), type + "." + method.group(1) + " makes an object");
                to++;
            }
            expect(to - i < 60, type + "." + method.group(1) + " has " + (to - i + 1) + " lines");
            i = to;
        }
    }

    /** Rule 12 and the one room of a run: how much one object holds. */
    private static void lookAtSize() throws IllegalAccessException {
        Set<Object> seen = Collections.newSetFromMap(new IdentityHashMap<>());
        Deque<Object> open = new ArrayDeque<>();
        open.add(new NumberDoor());
        long elements = 0;
        while (!open.isEmpty()) {
            Object one = open.pop();
            if (!seen.add(one)) {
                continue;
            }
            Class<?> type = one.getClass();
            if (type.isArray()) {
                elements += Array.getLength(one);
                for (int i = 0; i < Array.getLength(one) && !type.getComponentType().isPrimitive(); i++) {
                    open.push(Array.get(one, i));
                }
                continue;
            }
            for (Field field : type.getDeclaredFields()) {
                if (!Modifier.isStatic(field.getModifiers())) {
                    elements++;
                    field.setAccessible(true);
                    Object held = field.get(one);
                    if (!field.getType().isPrimitive()) {
                        expect(held != null, field + " is null");
                        open.push(held);
                    }
                }
            }
        }
        System.out.println("one object: " + seen.size() + " objects and arrays, " + elements + " fields and elements");
        // A run of 512 calls, each of them the dearest one, which is the constructor, has to fit into the one room.
        expect(seen.size() <= 600000 / 512 && elements <= 7300000 / 512, "one object holds too much: "
            + Arrays.asList(seen.size(), elements));
    }
}
