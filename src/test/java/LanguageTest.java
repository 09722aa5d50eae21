import java.io.IOException;
import java.lang.reflect.Field;
import java.lang.reflect.Method;
import java.lang.reflect.Modifier;
import java.nio.file.Files;
import java.nio.file.Path;
import java.util.ArrayList;
import java.util.Arrays;
import java.util.HashSet;
import java.util.List;
import java.util.Set;
import java.util.regex.Matcher;
import java.util.regex.Pattern;

/**
 * Those rules of ../shared/LANGUAGE.md that can be seen from the program's lines or from its compiled classes. Where
 * the program needs less than a rule allows (no try, no list, no row made by a call), the test asks for that.
 */
public final class LanguageTest {
    private static final Due due = new Due();
    private static final Path PROGRAM = Path.of("src/main/java/LeanSets.java");
    private static final Pattern METHOD = Pattern.compile("^ +[A-Za-z\\[\\] ]+ [a-z][A-Za-z]*\\(([^)]*)\\).*");

    public static void main(String[] args) throws IOException {
        List<String> lines = bare(Files.readAllLines(PROGRAM));
        List<Class<?>> classes = new ArrayList<>(Arrays.asList(LeanSets.class.getDeclaredClasses()));
        classes.add(LeanSets.class);
        oneFile(lines);
        privateNames(classes);
        fieldTypes(classes);
        library(lines, classes);
        staticFields(classes, lines);
        exceptions(lines);
        loops(lines);
        shortMethods(lines);
        fewClassesAndFields(classes);
        fewObjects(lines);
        due.end();
    }

    /** The lines without their comments and written texts; their numbers stay. */
    private static List<String> bare(List<String> lines) {
        List<String> bare = new ArrayList<>();
        for (String line : lines) {
            String one = line.replaceAll("\"[^\"]*\"", "\"\"").replaceAll("'[^']'", "' '");
            bare.add(one.replaceAll("//.*|/\\*\\*.*\\*/", ""));
        }
        return bare;
    }

    private static void never(List<String> lines, String pattern) {
        Pattern wrong = Pattern.compile(pattern);
        for (int i = 0; i < lines.size(); i++) {
            if (wrong.matcher(lines.get(i)).find()) {
                due.fail("line " + (i + 1) + ": " + lines.get(i).trim());
            }
        }
    }

    private static void oneFile(List<String> lines) {
        due.about("LANGUAGE: one file, without a package line, no library but what is listed");
        never(lines, "\\b(package|import|java)\\b");
        due.about("LANGUAGE 2: no lambda, no method reference");
        never(lines, "->|::|@");
    }

    private static void privateNames(List<Class<?>> classes) {
        due.about("LANGUAGE 1: No private method bears the name of a public one");
        Set<String> names = new HashSet<>();
        for (Method method : LeanSets.class.getMethods()) {
            names.add(method.getName());
        }
        for (Class<?> one : classes) {
            for (Method method : one.getDeclaredMethods()) {
                if (!Modifier.isPublic(method.getModifiers()) && names.contains(method.getName())) {
                    due.fail(method.toString());
                }
            }
        }
    }

    private static void fieldTypes(List<Class<?>> classes) {
        due.about("LANGUAGE 3: numbers, texts, own classes, and arrays of one dimension of these");
        for (Class<?> one : classes) {
            for (Field field : one.getDeclaredFields()) {
                Class<?> type = field.getType().isArray() ? field.getType().getComponentType() : field.getType();
                if (!type.isPrimitive() && type != String.class && !classes.contains(type)) {
                    due.fail(field.toString());
                }
            }
        }
    }

    private static void library(List<String> lines, List<Class<?>> classes) {
        due.about("LANGUAGE 4: The library: only what stands here");
        Set<String> known = new HashSet<>(List.of("String", "Integer", "Long", "Math", "IllegalStateException",
                "IllegalArgumentException", "IndexOutOfBoundsException"));
        for (Class<?> one : classes) {
            known.add(one.getSimpleName());
        }
        Pattern name = Pattern.compile("\\b[A-Z]\\w*[a-z]\\w*\\b");
        for (String line : lines) {
            Matcher matcher = name.matcher(line);
            while (matcher.find()) {
                if (!known.contains(matcher.group())) {
                    due.fail(matcher.group() + " in " + line.trim());
                }
            }
        }
        never(lines, "\\b(Integer|Long|Math)\\.(?!(bitCount|max|min|abs|compare|floorDiv|floorMod)\\()");
        never(lines, "\\b(equals|hashCode|toString|getMessage)\\(|Exact\\(");
    }

    private static void staticFields(List<Class<?>> classes, List<String> lines) {
        due.about("LANGUAGE 5: Static fields are final constants, no static initialiser block");
        for (Class<?> one : classes) {
            for (Field field : one.getDeclaredFields()) {
                boolean plain = field.getType().isPrimitive() && Modifier.isFinal(field.getModifiers());
                if (Modifier.isStatic(field.getModifiers()) && !plain) {
                    due.fail(field.toString());
                }
            }
        }
        never(lines, "static *\\{");
    }

    private static void exceptions(List<String> lines) {
        due.about("LANGUAGE 6: throw new E(), E one of those listed, and no more");
        never(lines, "throw (?!new (IllegalState|IllegalArgument|IndexOutOfBounds)Exception\\(\\);)");
        never(lines, "\\b(try|catch|finally|synchronized|assert|instanceof)\\b");
    }

    private static void loops(List<String> lines) {
        due.about("LANGUAGE 9: Every loop has an end that can be seen from its own lines");
        never(lines, "while *\\( *true|for *\\([^;]*; *;");
        never(lines, "\\b(while|for) *\\((?!.*[<>]).*");
    }

    private static void shortMethods(List<String> lines) {
        due.about("LANGUAGE 11: at most seven parameters; methods stay short (some sixty lines)");
        int seen = 0;
        for (int i = 0; i < lines.size(); i++) {
            Matcher matcher = METHOD.matcher(lines.get(i));
            if (!matcher.matches() || lines.get(i).matches(" +(return|throw|else|new) .*|.*;$")) {
                continue;
            }
            seen++;
            if (matcher.group(1).split(",").length > 7) {
                due.fail("line " + (i + 1) + " has many parameters");
            }
            String indent = lines.get(i).replaceAll("[^ ].*", "");
            int end = i;
            while (end < lines.size() && !lines.get(end).equals(indent + "}")) {
                end++;
            }
            if (end - i >= 60) {
                due.fail("line " + (i + 1) + " begins a method of " + (end - i + 1) + " lines");
            }
        }
        // Guards against a pattern that finds nothing.
        due.same("many methods were seen", seen > 40 ? 1 : 0, 1);
    }

    private static void fewClassesAndFields(List<Class<?>> classes) {
        due.about("LANGUAGE 11: the file has at most some twelve classes, and a class some twenty fields");
        due.same("at most twelve classes", classes.size() <= 12 ? 1 : 0, 1);
        for (Class<?> one : classes) {
            int fields = 0;
            for (Field field : one.getDeclaredFields()) {
                fields += Modifier.isStatic(field.getModifiers()) ? 0 : 1;
            }
            due.same("at most twenty fields of " + one, fields <= 20 ? 1 : 0, 1);
        }
    }

    private static void fewObjects(List<String> lines) {
        due.about("LANGUAGE 12: rows are made with their object, none by a call");
        for (String line : lines) {
            boolean made = line.contains("new ") && !line.contains("throw new ");
            if (made && !line.matches(" +(private )?final \\S+ \\w+ = new .*;| {8}[a-zA-Z]+ = new .*;")) {
                due.fail(line.trim());
            }
        }
        never(lines, "\\bclone\\(|copyOf");
        due.about("LANGUAGE 12: the elements of an object's rows, at most some ten thousand");
        due.same("elements", elementsOf(new LeanSets(), 0) < 10000 ? 1 : 0, 1);
    }

    private static int elementsOf(Object object, int depth) {
        if (object == null || depth > 5) {
            return 0;
        }
        if (object.getClass().isArray()) {
            return java.lang.reflect.Array.getLength(object);
        }
        int elements = 0;
        for (Field field : object.getClass().getDeclaredFields()) {
            if (Modifier.isStatic(field.getModifiers())) {
                continue;
            }
            elements++;
            try {
                field.setAccessible(true);
                elements += field.getType().isPrimitive() ? 0 : elementsOf(field.get(object), depth + 1);
            } catch (IllegalAccessException e) {
                due.fail(field + " can't be seen");
            }
        }
        return elements;
    }
}
