import java.io.IOException;
import java.lang.reflect.Constructor;
import java.lang.reflect.Field;
import java.lang.reflect.Method;
import java.lang.reflect.Modifier;
import java.nio.charset.StandardCharsets;
import java.nio.file.Files;
import java.nio.file.Path;
import java.util.Arrays;
import java.util.List;
import java.util.TreeSet;
import java.util.regex.Matcher;
import java.util.regex.Pattern;

/** The face of the document, and those rules of LANGUAGE.md that can be read off the program. */
public final class LanguageTest {
    private static final Path SOURCE = Path.of("src/main/java/PhosphorHush.java");
    private static final List<String> FACE = List.of(
        "append(int)", "at(int)", "bestStart(int)", "brightness(int, int)", "clearText()",
        "count(int)", "darken(int)", "draw(int, int, int)", "exchange(int, int)",
        "firstWrong(int)", "leastTravel(int)", "light(int)", "longest()", "restore(int)", "run()",
        "set(int, int)", "setPhosphor(int, int)", "shortestPeriod()", "sort(int)",
        "spot(int, int)", "take(int)", "ticks(int, int)", "undo()");
    private static final List<String> CONSTANTS = List.of("CAPACITY_EXCEEDED", "ILLEGAL_STATE",
        "INVALID_ARGUMENT", "NONE");
    private static final String FORBIDDEN = "\\b(throw|throws|try|catch|synchronized|assert|var|"
        + "protected|volatile|transient|native|enum|System\\.out|Exception|Error|\\w+Exact)\\b"
        + "|->|::|@";

    private static int wrong = 0;

    public static void main(String[] args) throws IOException {
        face();
        privateNames();
        words();
        if (wrong != 0) {
            System.exit(1);
        }
        System.out.println("the program keeps to the language");
    }

    private static void fault(String what) {
        wrong++;
        System.out.println(what);
    }

    private static void face() {
        Class<?> program = PhosphorHush.class;
        int modifiers = program.getModifiers();
        if (!Modifier.isFinal(modifiers) || !Modifier.isPublic(modifiers)) {
            fault("the class is not public and final");
        }
        TreeSet<String> methods = new TreeSet<>();
        for (Method m : program.getDeclaredMethods()) {
            if (!Modifier.isPrivate(m.getModifiers())) {
                methods.add(signature(m));
                if (m.getReturnType() != int.class || Modifier.isStatic(m.getModifiers())) {
                    fault(m + " is not as in the document");
                }
            }
        }
        if (!methods.equals(new TreeSet<>(FACE))) {
            fault("the methods are " + methods);
        }
        TreeSet<String> constants = new TreeSet<>();
        for (Field f : program.getDeclaredFields()) {
            if (!Modifier.isPrivate(f.getModifiers())) {
                constants.add(f.getName());
            }
            if (Modifier.isStatic(f.getModifiers()) && !Modifier.isFinal(f.getModifiers())) {
                fault(f + " is static and not final");
            }
        }
        if (!constants.equals(new TreeSet<>(CONSTANTS))) {
            fault("the constants are " + constants);
        }
        Constructor<?>[] constructors = program.getDeclaredConstructors();
        if (constructors.length != 1 || !Modifier.isPublic(constructors[0].getModifiers())
            || constructors[0].getParameterCount() != 0) {
            fault("the constructors are " + Arrays.toString(constructors));
        }
    }

    private static String signature(Method m) {
        String types = Arrays.toString(m.getParameterTypes());
        return m.getName() + "(" + types.substring(1, types.length() - 1) + ")";
    }

    private static void privateNames() {
        TreeSet<String> names = new TreeSet<>();
        for (String method : FACE) {
            names.add(method.substring(0, method.indexOf('(')));
        }
        for (Class<?> inside : PhosphorHush.class.getDeclaredClasses()) {
            if (!Modifier.isStatic(inside.getModifiers())) {
                fault(inside + " is not static");
            }
            for (Method m : inside.getDeclaredMethods()) {
                if (names.contains(m.getName())) {
                    fault(m + " bears the name of a public method");
                }
            }
        }
        for (Method m : PhosphorHush.class.getDeclaredMethods()) {
            if (Modifier.isPrivate(m.getModifiers()) && names.contains(m.getName())) {
                fault(m + " bears the name of a public method");
            }
        }
    }

    private static void words() throws IOException {
        String source = Files.readString(SOURCE, StandardCharsets.UTF_8);
        String code = source.replaceAll("(?s)/\\*.*?\\*/", "").replaceAll("//[^\n]*", "");
        Matcher forbidden = Pattern.compile(FORBIDDEN).matcher(code);
        while (forbidden.find()) {
            fault("the program holds " + forbidden.group());
        }
        Matcher imports = Pattern.compile("(?m)^import (.*);$").matcher(code);
        while (imports.find()) {
            if (!imports.group(1).equals("java.util.Arrays")) {
                fault("the program imports " + imports.group(1));
            }
        }
        if (code.contains("package ")) {
            fault("the program has a package line");
        }
    }
}
