import java.io.IOException;
import java.lang.reflect.Constructor;
import java.lang.reflect.Field;
import java.lang.reflect.Method;
import java.lang.reflect.Modifier;
import java.nio.charset.StandardCharsets;
import java.nio.file.Files;
import java.nio.file.Path;
import java.util.ArrayList;
import java.util.List;
import java.util.Map;
import java.util.Set;
import java.util.TreeMap;
import java.util.TreeSet;
import java.util.regex.Matcher;
import java.util.regex.Pattern;

/** What can be seen of LANGUAGE.md from outside: the face, forbidden words, lengths, depth of calls, wild arguments. */
public final class RulesTests {
    private static final Pattern METHOD = Pattern.compile(
        "^ +(?:(?:public|private|static|final) )*(?:int|long|boolean|void|String|char|VolumeInFivePasses|Volume) ?"
        + "(\\w*)\\(([^)]*)\\) \\{$", Pattern.MULTILINE);

    private RulesTests() {
    }

    /** The document, and the source of the program. */
    public static void main(String[] args) throws Exception {
        String document = Files.readString(Path.of(args[0]), StandardCharsets.UTF_8);
        String source = Files.readString(Path.of(args[1]), StandardCharsets.ISO_8859_1);
        face(document);
        nestedClasses();
        forbidden(source);
        methods(withoutCommentsAndTexts(source));
        wildArguments();
        Due.end("RulesTests");
    }

    private static void face(String document) {
        Set<String> due = new TreeSet<>();
        Matcher m = Pattern.compile("^    public (?:(int|long) )?(\\w+)\\(([^)]*)\\);$", Pattern.MULTILINE).matcher(document);
        while (m.find()) {
            StringBuilder told = new StringBuilder(m.group(1) == null ? "new" : m.group(1) + " " + m.group(2));
            for (String parameter : m.group(3).isEmpty() ? new String[0] : m.group(3).split(", ")) {
                told.append(' ').append(parameter.split(" ")[0]);
            }
            due.add(told.toString());
        }
        Due.is("how many the face has", due.size(), 39);
        Set<String> got = new TreeSet<>();
        Class<?> own = VolumeInFivePasses.class;
        Set<String> names = new TreeSet<>();
        for (Method method : own.getDeclaredMethods()) {
            if (Modifier.isPublic(method.getModifiers())) {
                got.add(told(method.getReturnType().getName() + " " + method.getName(), method.getParameterTypes()));
                names.add(method.getName());
            } else if (!method.isSynthetic()) {
                Due.is("private is " + method, Modifier.isPrivate(method.getModifiers()) ? 1 : 0, 1);
            }
        }
        for (Method method : own.getDeclaredMethods()) {
            if (!Modifier.isPublic(method.getModifiers())) {
                Due.is("a public name is " + method, names.contains(method.getName()) ? 1 : 0, 0);
            }
        }
        for (Constructor<?> made : own.getDeclaredConstructors()) {
            got.add(told("new", made.getParameterTypes()));
        }
        Due.is("the face", got.toString(), due.toString());
        Due.is("public and final", own.getModifiers(), Modifier.PUBLIC | Modifier.FINAL);
        for (Field field : own.getDeclaredFields()) {
            Due.is("private is " + field, Modifier.isPrivate(field.getModifiers()) ? 1 : 0, 1);
        }
    }

    private static String told(String name, Class<?>[] types) {
        StringBuilder told = new StringBuilder(name);
        for (Class<?> type : types) {
            told.append(' ').append(type.getName());
        }
        return told.toString();
    }

    private static void nestedClasses() {
        List<Class<?>> all = new ArrayList<>(List.of(VolumeInFivePasses.class.getDeclaredClasses()));
        Due.is("few classes", all.size() < 12 ? 1 : 0, 1);
        for (Class<?> nested : all) {
            Due.is("static is " + nested, Modifier.isStatic(nested.getModifiers()) ? 1 : 0, 1);
            Due.is("not public is " + nested, Modifier.isPublic(nested.getModifiers()) ? 1 : 0, 0);
        }
        all.add(VolumeInFivePasses.class);
        for (Class<?> each : all) {
            int fields = 0;
            for (Field field : each.getDeclaredFields()) {
                boolean isStatic = Modifier.isStatic(field.getModifiers());
                fields += isStatic ? 0 : 1;
                Due.is("final is " + field, isStatic && !Modifier.isFinal(field.getModifiers()) ? 1 : 0, 0);
            }
            Due.is("few fields has " + each, fields <= 20 ? 1 : 0, 1);
        }
    }

    private static void forbidden(String source) {
        String code = withoutCommentsAndTexts(source);
        for (String word : new String[] {"throw", "try", "catch", "synchronized", "assert", "package", "Object", "System\\.(?!arraycopy)",
            "Random", "Thread", "hashCode", "equals", "toString", "\\w+Exact", "->", "::", "static \\{", "instanceof", "var", "native"}) {
            Matcher m = Pattern.compile("(?<!\\w)" + word + (word.matches("\\w+") ? "(?!\\w)" : "")).matcher(code);
            Due.is("found: " + word, m.find() ? m.start() : -1, -1);
        }
        Matcher imports = Pattern.compile("^import (.*);$", Pattern.MULTILINE).matcher(source);
        while (imports.find()) {
            Due.is("import", imports.group(1), "java.util.Arrays");
        }
        Matcher library = Pattern.compile("(?<!\\w)(?:Integer|Long|Math|Arrays|System|String|StringBuilder)\\.\\w+").matcher(code);
        while (library.find()) {
            boolean isCall = library.end() < code.length() && code.charAt(library.end()) == '(';
            Due.is("a function is " + library.group(), isCall ? 1 : 0, 1);
        }
        for (int i = 0; i < source.length(); i++) {
            char c = source.charAt(i);
            if (c != '\n' && (c < 32 || c > 126)) {
                Due.is("sign at " + i, c, ' ');
            }
        }
    }

    private static String withoutCommentsAndTexts(String source) {
        return source.replaceAll("(?s)/\\*.*?\\*/", "").replaceAll("//[^\n]*", "")
            .replaceAll("\"[^\"\n]*\"", "\"\"").replaceAll("'[^'\n]'", "' '");
    }

    private static void methods(String code) {
        Map<String, String> bodies = new TreeMap<>();
        Matcher m = METHOD.matcher(code);
        while (m.find()) {
            String name = m.group(1);
            if (name.isEmpty()) {
                continue;
            }
            String body = code.substring(m.end(), endOfBody(code, m.end()));
            Due.is("two methods are named " + name, bodies.put(name, body) == null ? 0 : 1, 0);
            Due.is("lines of " + name, body.lines().count() <= 60 ? 1 : 0, 1);
            Due.is("parameters of " + name, m.group(2).split(",").length <= 7 ? 1 : 0, 1);
            Due.is("objects made in " + name, body.matches("(?s).*\\b(new|clone|copyOf|copyOfRange)\\b.*") ? 1 : 0, 0);
        }
        Due.is("methods found", bodies.size() > 60 ? 1 : 0, 1);
        for (String name : bodies.keySet()) {
            int depth = depth(name, bodies, 0);
            Due.is("calls of " + name + " go " + depth + " deep", depth <= 8 ? 1 : 0, 1);
        }
    }

    private static int endOfBody(String code, int start) {
        int open = 1;
        int at = start;
        while (open > 0) {
            open += code.charAt(at) == '{' ? 1 : code.charAt(at) == '}' ? -1 : 0;
            at++;
        }
        return at;
    }

    /** How many methods stand open at most, this one among them. */
    private static int depth(String name, Map<String, String> bodies, int above) {
        int most = 0;
        if (above > 20) {
            return 99;
        }
        Matcher calls = Pattern.compile("(\\w+)\\(").matcher(bodies.get(name));
        while (calls.find()) {
            if (bodies.containsKey(calls.group(1))) {
                most = Math.max(most, depth(calls.group(1), bodies, above + 1));
            }
        }
        return most + 1;
    }

    /** Every call with every mix of wild numbers ends without an exception. */
    private static void wildArguments() throws Exception {
        int[] wild = {0, 1, -1, 2, 5, 9, 10, 16, 23, 24, 99, 100, Integer.MAX_VALUE, Integer.MIN_VALUE};
        for (Method method : VolumeInFivePasses.class.getDeclaredMethods()) {
            if (!Modifier.isPublic(method.getModifiers())) {
                continue;
            }
            int many = 1;
            for (int i = 0; i < method.getParameterCount(); i++) {
                many *= wild.length;
            }
            VolumeInFivePasses x = null;
            for (int mix = 0; mix < many; mix++) {
                x = mix % 200 == 0 ? new VolumeInFivePasses() : x;
                Object[] args = new Object[method.getParameterCount()];
                int left = mix;
                for (int i = 0; i < args.length; i++) {
                    args[i] = wild[left % wild.length];
                    left /= wild.length;
                }
                method.invoke(x, args);
                x.check();
            }
            Due.is("wild " + method.getName(), x == null ? 0 : x.sound(), 1);
        }
    }
}
