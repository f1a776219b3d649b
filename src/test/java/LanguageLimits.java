import java.io.ByteArrayOutputStream;
import java.io.PrintStream;
import java.lang.reflect.Executable;
import java.lang.reflect.Field;
import java.lang.reflect.Method;
import java.lang.reflect.Modifier;
import java.util.ArrayList;
import java.util.HashSet;
import java.util.LinkedHashMap;
import java.util.LinkedHashSet;
import java.util.List;
import java.util.Map;
import java.util.Optional;
import java.util.Set;
import java.util.regex.Matcher;
import java.util.regex.Pattern;
import java.util.spi.ToolProvider;

/** The rules of ../shared/LANGUAGE.md that the compiled class tells of: types, static fields, how many and how deep. */
final class LanguageLimits {
    private static final int CLASSES = 12;
    private static final int FIELDS = 20;
    private static final int ARGUMENTS = 7;
    private static final int DEEP = 8;
    private static final Set<String> TYPES = Set.of("int", "long", "short", "byte", "char", "boolean", "double", "float",
            "void", "java.lang.String", "java.lang.StringBuilder", "java.lang.Integer", "java.util.ArrayList",
            "java.util.List");
    private static final Set<String> CONSTANTS = Set.of("int", "long", "boolean", "char", "String",
            "int[]", "long[]", "char[]", "byte[]");
    private static final Pattern METHOD = Pattern.compile("^  \\S.*?([\\w$.]+)\\(.*\\).*;$");
    private static final Pattern ARGUMENT_TYPES = Pattern.compile("^    descriptor: (\\(.*)$");
    private static final Pattern CALL = Pattern.compile("// (?:Interface)?Method (?:([\\w$/]+)\\.)?\"?([\\w<>$]+)\"?:(\\(.*)$");

    private LanguageLimits() {
    }

    static void check() {
        List<Class<?>> all = new ArrayList<>(List.of(DraftMerge.class));
        for (int at = 0; at < all.size(); at++) {
            all.addAll(List.of(all.get(at).getDeclaredClasses()));
        }
        most("11", "classes", all.size(), CLASSES);
        for (Class<?> c : all) {
            fields(c);
            for (Method m : c.getDeclaredMethods()) {
                type(m.getReturnType(), m.toString());
                arguments(m);
            }
            for (Executable made : c.getDeclaredConstructors()) {
                arguments(made);
            }
        }
        depth(all);
    }

    private static void most(String rule, String what, int count, int limit) {
        if (count > limit) {
            Due.tellOfTests("rule " + rule + ": " + what + ": " + count);
        }
    }

    private static void fields(Class<?> c) {
        int own = 0;
        for (Field f : c.getDeclaredFields()) {
            if (f.isSynthetic() || f.isEnumConstant()) {
                continue;
            }
            type(f.getType(), f.toString());
            if (!Modifier.isStatic(f.getModifiers())) {
                own++;
                continue;
            }
            Class<?> one = f.getType().isArray() ? f.getType().getComponentType() : f.getType();
            if (!Modifier.isFinal(f.getModifiers()) || !CONSTANTS.contains(f.getType().getSimpleName()) && !one.isEnum()) {
                Due.tellOfTests("rule 5: " + f);
            }
        }
        most("11", "fields of " + c, own, FIELDS);
    }

    private static void arguments(Executable m) {
        most("11", "arguments of " + m, m.getParameterCount(), ARGUMENTS);
        for (Class<?> argument : m.getParameterTypes()) {
            type(argument, m.toString());
        }
    }

    /** Rows of two dimensions are of numbers alone. */
    private static void type(Class<?> type, String where) {
        Class<?> one = type.isArray() ? type.getComponentType() : type;
        Class<?> inside = one.isArray() ? one.getComponentType() : one;
        boolean isKnown = TYPES.contains(inside.getName()) || inside.getName().startsWith("DraftMerge");
        if (!isKnown || one.isArray() && !inside.isPrimitive()) {
            Due.tellOfTests("rule 3: " + where);
        }
    }

    /** Rules 8 and 11: no recursion, and the calls of the class's own methods that stand open at once. */
    private static void depth(List<Class<?>> all) {
        Optional<ToolProvider> javap = ToolProvider.findFirst("javap");
        if (javap.isEmpty()) {
            System.out.println("LanguageTest: no javap here, how deep the calls go is not asked");
            return;
        }
        Map<String, Set<String>> calls = new LinkedHashMap<>();
        for (Class<?> c : all) {
            ByteArrayOutputStream told = new ByteArrayOutputStream();
            PrintStream to = new PrintStream(told);
            javap.get().run(to, to, "-p", "-c", "-s", "-cp", System.getProperty("java.class.path"), c.getName());
            readCalls(c.getName(), told.toString(), calls);
        }
        if (!calls.containsKey("DraftMerge.digest()J")) {
            Due.tellOfTests("javap does not tell of DraftMerge.digest");
        }
        Map<String, Integer> known = new LinkedHashMap<>();
        for (String method : calls.keySet()) {
            most("11", "calls deep of " + method, deep(method, calls, known, new HashSet<>()), DEEP);
        }
    }

    private static void readCalls(String owner, String told, Map<String, Set<String>> calls) {
        String name = "";
        Set<String> made = new LinkedHashSet<>();
        for (String line : told.split("\\R")) {
            Matcher method = METHOD.matcher(line);
            Matcher types = ARGUMENT_TYPES.matcher(line);
            Matcher call = CALL.matcher(line);
            if (method.matches()) {
                name = method.group(1).equals(owner) ? "<init>" : method.group(1);
            } else if (types.matches()) {
                made = new LinkedHashSet<>();
                calls.put(owner + "." + name + types.group(1), made);
            } else if (call.find()) {
                made.add((call.group(1) == null ? owner : call.group(1)) + "." + call.group(2) + call.group(3));
            }
        }
    }

    private static int deep(String method, Map<String, Set<String>> calls, Map<String, Integer> known, Set<String> open) {
        if (!calls.containsKey(method)) {
            return 0;
        }
        if (!open.add(method)) {
            Due.tellOfTests("rule 8: " + method + " calls itself");
            return 0;
        }
        if (!known.containsKey(method)) {
            int most = 0;
            for (String called : calls.get(method)) {
                most = Math.max(most, deep(called, calls, known, open));
            }
            known.put(method, most + 1);
        }
        open.remove(method);
        return known.get(method);
    }
}
