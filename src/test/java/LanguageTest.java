import java.io.IOException;
import java.lang.reflect.Constructor;
import java.lang.reflect.Field;
import java.lang.reflect.Method;
import java.lang.reflect.Modifier;
import java.nio.file.Files;
import java.nio.file.Path;
import java.util.Arrays;
import java.util.Set;
import java.util.TreeSet;
import java.util.regex.Matcher;
import java.util.regex.Pattern;

/** The rules of LANGUAGE.md that can be seen from the class file and from the text. */
public final class LanguageTest {
    private static final String[] FACE = {
        "int feed(long, long, long)", "int figure()", "int cell(int, int)", "int edge(int, int)",
        "int gluings()", "int partner(int, int)", "int glue(int, int)", "boolean choose(int)",
        "boolean undo()", "boolean redo()", "int corner(int, int)", "int lacking(int)",
        "int beyond(int, int, int)", "int same(int, int)", "int bodyOf(int)", "int bodies()",
        "int way(int, int, int, int)",
        "int shortest(int, int, int) throws NoSuchElementException",
        "int round(int, int) throws NoSuchElementException", "int farthest(int)", "int nets(int)",
        "boolean mark(int, boolean)", "int count(int)",
    };
    private static final Set<String> LIBRARY = Set.of("String", "NoSuchElementException", "Arrays", "System",
        "Math", "Integer", "Long");
    private static int wrong = 0;

    private LanguageTest() { }

    public static void main(String[] args) throws IOException {
        face();
        nested();
        String code = bare(Files.readString(Path.of("src/main/java/GluedPaper.java")));
        words(code);
        methods(code);
        System.out.println(wrong == 0 ? "the rules are kept" : wrong + " rules are not kept");
        if (wrong > 0) {
            System.exit(1);
        }
    }

    private static void must(boolean kept, String rule) {
        if (!kept) {
            wrong++;
            System.out.println("not kept: " + rule);
        }
    }

    private static void face() {
        Class<?> type = GluedPaper.class;
        must(type.getModifiers() == (Modifier.PUBLIC | Modifier.FINAL), "public and final");
        Constructor<?>[] made = type.getDeclaredConstructors();
        must(made.length == 1 && Modifier.isPublic(made[0].getModifiers()) && made[0].getParameterCount() == 0,
            "one public constructor");
        Set<String> open = new TreeSet<>();
        Set<String> names = new TreeSet<>();
        for (Method method : type.getDeclaredMethods()) {
            if (Modifier.isPublic(method.getModifiers())) {
                open.add(told(method));
                names.add(method.getName());
            } else {
                must(Modifier.isPrivate(method.getModifiers()), "private: " + method);
            }
        }
        must(open.equals(new TreeSet<>(Arrays.asList(FACE))), "the face: " + open);
        for (Method method : type.getDeclaredMethods()) {
            must(Modifier.isPublic(method.getModifiers()) || !names.contains(method.getName()),
                "no private method with a public one's name: " + method);
        }
        for (Field field : type.getDeclaredFields()) {
            must(Modifier.isPrivate(field.getModifiers()) || field.getName().equals("NONE"), "private: " + field);
            must(!Modifier.isStatic(field.getModifiers()) || Modifier.isFinal(field.getModifiers()), "final: " + field);
        }
    }

    private static String told(Method method) {
        StringBuilder text = new StringBuilder(method.getReturnType().getSimpleName() + " " + method.getName() + "(");
        for (Class<?> parameter : method.getParameterTypes()) {
            text.append(text.charAt(text.length() - 1) == '(' ? "" : ", ").append(parameter.getSimpleName());
        }
        text.append(')');
        for (Class<?> thrown : method.getExceptionTypes()) {
            text.append(" throws ").append(thrown.getSimpleName());
        }
        return text.toString();
    }

    private static void nested() {
        Class<?>[] inside = GluedPaper.class.getDeclaredClasses();
        must(inside.length <= 11, "some twelve classes");
        for (Class<?> type : inside) {
            must(Modifier.isStatic(type.getModifiers()) && Modifier.isPrivate(type.getModifiers()), "static: " + type);
            int fields = 0;
            for (Field field : type.getDeclaredFields()) {
                boolean constant = Modifier.isStatic(field.getModifiers());
                fields += constant ? 0 : 1;
                must(!constant || Modifier.isFinal(field.getModifiers()), "final: " + field);
            }
            must(fields <= 20, "twenty fields: " + type);
            for (Method method : type.getDeclaredMethods()) {
                must(method.getParameterCount() <= 7, "seven parameters: " + method);
                for (String open : FACE) {
                    must(!open.contains(" " + method.getName() + "("), "not a name of the face: " + method);
                }
            }
        }
    }

    /** The code without its comments, and with empty texts. */
    private static String bare(String text) {
        return text.replaceAll("(?s)/\\*.*?\\*/", "").replaceAll("//[^\n]*", "")
            .replaceAll("\"[^\"\n]*\"", "\"\"").replaceAll("'[^']'", "' '");
    }

    private static void words(String code) {
        for (String word : new String[] {"synchronized", "assert", "finally", "try", "catch", "instanceof", "goto",
            "volatile", "transient", "native", "strictfp", "var", "double", "float", "Object", "equals", "hashCode",
            "toString", "random", "Exact"}) {
            must(!Pattern.compile("\\b" + word + "\\b").matcher(code).find(), "without " + word);
        }
        must(!code.contains("->") && !code.contains("::"), "no lambda, no method reference");
        must(!code.contains("\"\" +") && !code.contains("+ \"\""), "texts are not joined by +");
        must(!code.contains("package "), "no package");
        Matcher imported = Pattern.compile("import ([^;]*);").matcher(code);
        while (imported.find()) {
            must(Set.of("java.util.NoSuchElementException", "java.util.Arrays").contains(imported.group(1)),
                "import " + imported.group(1));
        }
        Set<String> own = new TreeSet<>();
        Matcher type = Pattern.compile("\\bclass (\\w+)").matcher(code);
        while (type.find()) {
            own.add(type.group(1));
        }
        Matcher name = Pattern.compile("\\b[A-Z]\\w*[a-z]\\w*\\b").matcher(code);
        while (name.find()) {
            must(own.contains(name.group()) || LIBRARY.contains(name.group()), "the library: " + name.group());
        }
        for (char sign : code.toCharArray()) {
            must(sign < 127, "signs 1 to 126");
        }
    }

    private static void methods(String code) {
        String[] lines = code.split("\n");
        int start = 0;
        String head = "";
        boolean constructor = false;
        for (int i = 0; i < lines.length; i++) {
            if (lines[i].matches(" {4}(?: {4})?[\\w\\[\\] ]*\\w+\\(.*\\{")) {
                start = i;
                head = lines[i].trim();
                constructor = head.matches("(public )?[A-Z]\\w*\\(.*");
            }
            if (lines[i].matches(" {4}(?: {4})?\\}")) {
                must(i - start <= 60, "sixty lines: " + head);
            }
            if (lines[i].matches(".*\\bnew \\w+.*") && !head.isEmpty() && !lines[i].matches(" {4,8}(private )?(final )?[\\w\\[\\]]+ \\w+ = new .*")) {
                must(constructor || lines[i].contains("throw new "), "made in a constructor: " + lines[i].trim());
            }
            must(!lines[i].contains("throw ") || !constructor, "no throw in a constructor");
        }
    }
}
