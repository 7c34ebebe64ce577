import java.lang.reflect.Field;
import java.lang.reflect.Method;
import java.lang.reflect.Modifier;
import java.nio.file.Files;
import java.nio.file.Path;
import java.util.ArrayList;
import java.util.Arrays;
import java.util.List;
import java.util.TreeSet;
import java.util.regex.Matcher;
import java.util.regex.Pattern;

/** The face of the class, and the rules of LANGUAGE.md that can be seen in the text or the class. */
public final class LanguageTest {
    private static final String[] FACE = {
        "boolean size(int,int)", "int phase(int,int)", "boolean hide(int,boolean)", "boolean grade(int,int)",
        "int grades(int)", "boolean ramp(int,int)", "boolean noise(int)", "int state(int)", "int join(int)",
        "boolean cut(int,boolean)", "int begin()", "int step(int)", "boolean lift(int,int)", "int settle()",
        "int feed(int,int,int,int,int)", "boolean end(int)", "int text()", "int fault()", "int pixel(int,int)",
        "int height(int)", "int edge(int,int)", "int charge(int)", "int torn(int)", "int far(int,int)",
        "int joined(int,int)", "int island(int,int)", "int fit(int,int,int)", "int loop(int,int,int,int)",
        "long sum(int)", "long power(int,long)", "int range(int)", "int between(int,int)", "int areas(int,int)",
        "int peak(int)", "int way(int,int)", "int would(int,int)", "int apart(int)", "int undo()",
        "int log(int,int)", "boolean image(boolean)", "int look(int)"};
    private static final String[] BANNED = {"throw", "throws", "try", "catch", "synchronized", "assert", "->",
        "::", "instanceof", "hashCode", "equals", "toString", "finalize", "volatile", "System.out", "Exact",
        "double", "float", "Random", "Thread"};
    private static final Checks checks = new Checks();

    private LanguageTest() {
    }

    public static void main(String[] args) throws Exception {
        face();
        text(Files.readString(Path.of("src/main/java/TornFringes.java")));
        checks.end("LanguageTest");
    }

    private static void face() {
        checks.about("face");
        TreeSet<String> open = new TreeSet<>();
        TreeSet<String> names = new TreeSet<>();
        for (Method method : TornFringes.class.getDeclaredMethods()) {
            if (!Modifier.isPrivate(method.getModifiers())) {
                StringBuilder told = new StringBuilder(method.getReturnType() + " " + method.getName() + "(");
                for (Class<?> type : method.getParameterTypes()) {
                    told.append(told.charAt(told.length() - 1) == '(' ? "" : ",").append(type);
                }
                open.add(told + ")");
                names.add(method.getName());
            }
        }
        due("the methods", open.equals(new TreeSet<>(Arrays.asList(FACE))));
        for (Method method : TornFringes.class.getDeclaredMethods()) {
            due("name of " + method, !Modifier.isPrivate(method.getModifiers()) || !names.contains(method.getName()));
        }
        List<Class<?>> classes = new ArrayList<>(Arrays.asList(TornFringes.class.getDeclaredClasses()));
        classes.add(TornFringes.class);
        due("some twelve classes", classes.size() <= 13);
        for (Class<?> one : classes) {
            fields(one);
            for (Method method : one.getDeclaredMethods()) {
                due("parameters of " + method, method.getParameterCount() <= 7);
            }
        }
    }

    private static void fields(Class<?> one) {
        int count = 0;
        for (Field field : one.getDeclaredFields()) {
            boolean isStatic = Modifier.isStatic(field.getModifiers());
            due("static and not final: " + field, !isStatic || Modifier.isFinal(field.getModifiers()));
            if (one == TornFringes.class) {
                due("open: " + field, Modifier.isPrivate(field.getModifiers()) || field.getName().equals("NONE"));
            }
            count += isStatic ? 0 : 1;
        }
        due("some twenty fields in " + one, count <= 20);
    }

    private static void text(String all) {
        checks.about("text");
        String bare = all.replaceAll("(?s)/\\*.*?\\*/", "").replaceAll("//[^\n]*", "");
        for (String word : BANNED) {
            String wall = Character.isLetter(word.charAt(0)) ? "\\b" : "";
            due("has " + word, !Pattern.compile(wall + Pattern.quote(word) + wall).matcher(bare).find());
        }
        Matcher imports = Pattern.compile("(?m)^import .*$").matcher(bare);
        while (imports.find()) {
            due(imports.group(), imports.group().equals("import java.util.Arrays;"));
        }
        // Rows are made by constructors alone: a call makes no array.
        boolean inConstructor = false;
        int lines = 0;
        for (String line : bare.split("\n")) {
            if (line.matches("(    )?(    ?)(public )?[A-Z][A-Za-z]*\\(.*\\) \\{")) {
                inConstructor = true;
            }
            due("line is too long: " + line, line.length() <= 120);
            due("a row made in a call: " + line, inConstructor || !line.matches(".*new [A-Za-z]+\\[.*"));
            lines = line.matches("(    )?    [a-zA-Z].*\\) \\{") ? 0 : lines + 1;
            if (line.matches("(    )?    \\}")) {
                inConstructor = false;
                due("method of some sixty lines", lines <= 60 || line.equals("    }"));
            }
        }
    }

    private static void due(String what, boolean is) {
        checks.due(what, is, true);
    }
}
