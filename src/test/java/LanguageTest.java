import java.lang.reflect.Constructor;
import java.lang.reflect.Field;
import java.lang.reflect.Method;
import java.lang.reflect.Modifier;
import java.nio.file.Files;
import java.nio.file.Path;
import java.util.ArrayList;
import java.util.List;
import java.util.Set;
import java.util.TreeSet;
import java.util.regex.Matcher;
import java.util.regex.Pattern;

/** The rules of LANGUAGE.md that a program can look at. */
public final class LanguageTest {
    private static final String FACE = "feed(int,int,int,int,int)int end(int)int grid()int fault(int)int "
            + "square(int)int slots()int slot(int,int)int fits(int)int places(int)int wants(int,int)int "
            + "write(int,int)int strike(int)int blacken(int)int sitting()int undo()boolean redo()boolean force()int "
            + "follows()int against()int worth(int)int blanks()int capital()int nonsense()int fillings()int "
            + "best(int)int span(int,int)int reform(int,int)int play(int,int,int)int will(int,int)int lies(int)int "
            + "sight(int,int,boolean)int untell(int)boolean later(int)int prints(int)int sure(int,int)int "
            + "ask(int,int)int image(int)int back(int)int about(int)int";
    private static final String[] FORBIDDEN = {"\\bthrow\\b", "\\btry\\b", "\\bcatch\\b", "\\bsynchronized\\b",
        "\\bassert\\b", "->", "::", "\\bpackage\\b", "while \\(true\\)", "for \\(;;\\)", "Exact\\b", "\\bnull\\b",
        "\\bSystem\\.(?!arraycopy)", "\\bThread\\b", "\\bRandom\\b", "\\bprotected\\b", "@", "\"[^\"]*\" *\\+"};

    public static void main(String[] args) throws Exception {
        Path root = Path.of(args.length > 0 ? args[0] : ".");
        String source = Files.readString(root.resolve("src/main/java/GridLaws.java"));
        String code = withoutComments(source);
        for (String rule : FORBIDDEN) {
            Check.due("no " + rule, false, Pattern.compile(rule).matcher(code).find());
        }
        Check.due("only signs 1 to 127", true, source.chars().allMatch(c -> c >= 1 && c <= 127));
        imports(code);
        face();
        classes();
        methods(code);
        Check.finish("LanguageTest");
    }

    private static String withoutComments(String source) {
        return source.replaceAll("(?s)/\\*.*?\\*/", "").replaceAll("(?m)//.*$", "");
    }

    private static void imports(String code) {
        Matcher matcher = Pattern.compile("(?m)^import (.*);$").matcher(code);
        while (matcher.find()) {
            Check.due("import " + matcher.group(1), true, matcher.group(1).equals("java.util.Arrays"));
        }
    }

    private static String signature(Method method) {
        List<String> names = new ArrayList<>();
        for (Class<?> type : method.getParameterTypes()) {
            names.add(type.getSimpleName());
        }
        return method.getName() + "(" + String.join(",", names) + ")" + method.getReturnType().getSimpleName();
    }

    private static void face() {
        Class<?> type = GridLaws.class;
        int wanted = Modifier.PUBLIC | Modifier.FINAL;
        Check.due("public and final", wanted, type.getModifiers());
        Set<String> due = new TreeSet<>(List.of(FACE.split(" ")));
        Set<String> names = new TreeSet<>();
        due.forEach(s -> names.add(s.substring(0, s.indexOf('('))));
        Set<String> found = new TreeSet<>();
        for (Method method : type.getDeclaredMethods()) {
            if (Modifier.isPublic(method.getModifiers())) {
                found.add(signature(method));
                Check.due(method + " is of the object", false, Modifier.isStatic(method.getModifiers()));
            } else {
                Check.due(method + " is private", true, Modifier.isPrivate(method.getModifiers()));
                Check.due(method + " has its own name", false, names.contains(method.getName()));
            }
        }
        Check.due("the face: " + found, true, found.equals(due));
        Constructor<?>[] constructors = type.getDeclaredConstructors();
        Check.due("one constructor", 1, constructors.length);
        Check.due("without arguments", 0, constructors[0].getParameterCount());
        Check.due("public", true, Modifier.isPublic(constructors[0].getModifiers()));
        Set<String> open = new TreeSet<>();
        for (Field field : type.getDeclaredFields()) {
            if (!Modifier.isPrivate(field.getModifiers())) {
                open.add(field.getName());
            }
        }
        Check.due("the constants: " + open, true, open.equals(Set.of("NONE", "SPENT", "GAP")));
    }

    private static void classes() {
        List<Class<?>> all = new ArrayList<>(List.of(GridLaws.class.getDeclaredClasses()));
        Check.due("some twelve classes", true, all.size() + 1 <= 12);
        for (Class<?> type : all) {
            Check.due(type + " is static", true, Modifier.isStatic(type.getModifiers()));
            Check.due(type + " is not open", false, Modifier.isPublic(type.getModifiers()));
            Check.due(type + " has none inside", 0, type.getDeclaredClasses().length);
        }
        all.add(GridLaws.class);
        for (Class<?> type : all) {
            int fields = 0;
            for (Field field : type.getDeclaredFields()) {
                boolean isStatic = Modifier.isStatic(field.getModifiers());
                fields += isStatic ? 0 : 1;
                Check.due(field + " is final if static", true, !isStatic || Modifier.isFinal(field.getModifiers()));
                Check.due(field + " is a plain constant if static", true, !isStatic
                        || field.getType().isPrimitive() || field.getType() == String.class);
            }
            Check.due(type + " has some twenty fields: " + fields, true, fields <= 20);
            for (Method method : type.getDeclaredMethods()) {
                Check.due(method + " takes seven at most", true, method.getParameterCount() <= 7);
                Check.due(method + " has its own name", true, type == GridLaws.class
                        || !(" " + FACE).contains(" " + method.getName() + "("));
            }
        }
    }

    private static void methods(String code) {
        String[] lines = code.split("\n");
        int start = -1;
        String indent = "";
        for (int i = 0; i < lines.length; i++) {
            Matcher head = Pattern.compile("^( {4}| {8})\\w.*\\) \\{$").matcher(lines[i]);
            if (head.matches() && !lines[i].contains(" class ")) {
                start = i;
                indent = head.group(1);
            } else if (start >= 0 && lines[i].equals(indent + "}")) {
                Check.due("some sixty lines: " + lines[start].trim(), true, i - start <= 60);
                start = -1;
            }
        }
    }
}
