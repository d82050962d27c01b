import java.lang.reflect.Constructor;
import java.lang.reflect.Field;
import java.lang.reflect.Method;
import java.lang.reflect.Modifier;
import java.lang.reflect.Parameter;
import java.nio.file.Files;
import java.nio.file.Path;
import java.util.ArrayList;
import java.util.List;
import java.util.Set;
import java.util.TreeSet;
import java.util.regex.Matcher;
import java.util.regex.Pattern;

/** The document's face, and those rules of LANGUAGE.md that can be seen without reading the code as a person does. */
public final class LanguageTest {
    private static final Path SOURCE = Path.of("src/main/java/LotteryOfLosses.java");
    private static final Path DOCUMENT = Path.of("../shared/DOC.md");
    private static int wrong = 0;

    private LanguageTest() {
    }

    public static void main(String[] args) throws Exception {
        face();
        classes();
        words();
        lengths();
        System.out.println(wrong == 0 ? "the face and the language are kept" : wrong + " faults");
        System.exit(wrong == 0 ? 0 : 1);
    }

    private static void fault(String what) {
        wrong++;
        System.out.println(what);
    }

    private static void face() throws Exception {
        String text = Files.readString(DOCUMENT);
        String block = text.substring(text.indexOf("public final class"), text.indexOf("```\n\n## Terms"));
        Set<String> told = new TreeSet<>();
        Matcher m = Pattern.compile("public (int|long) (\\w+)\\(([^)]*)\\);").matcher(block);
        while (m.find()) {
            told.add(m.group(1) + " " + m.group(2) + "(" + m.group(3).replaceAll(" \\w+(,|$)", "$1") + ")");
        }
        if (told.size() != 45) {
            fault("the document's face was not read: " + told.size());
        }
        Set<String> is = new TreeSet<>();
        for (Method method : LotteryOfLosses.class.getDeclaredMethods()) {
            if (Modifier.isPublic(method.getModifiers())) {
                List<String> types = new ArrayList<>();
                for (Parameter p : method.getParameters()) {
                    types.add(p.getType().getName());
                }
                is.add(method.getReturnType() + " " + method.getName() + "(" + String.join(", ", types) + ")");
            } else if (!Modifier.isPrivate(method.getModifiers())) {
                fault("neither public nor private: " + method);
            }
        }
        if (!told.equals(is)) {
            fault("the document's face " + told + " is not the class's " + is);
        }
        for (Field field : LotteryOfLosses.class.getDeclaredFields()) {
            boolean constant = Set.of("BAD", "NOT", "FULL", "STATE", "VOID").contains(field.getName());
            if (Modifier.isPublic(field.getModifiers()) != constant
                || !constant && !Modifier.isPrivate(field.getModifiers())) {
                fault("not of the face: " + field);
            }
        }
        Constructor<?>[] made = LotteryOfLosses.class.getDeclaredConstructors();
        if (made.length != 1 || !Modifier.isPublic(made[0].getModifiers()) || made[0].getParameterCount() != 0) {
            fault("constructors");
        }
    }

    private static void classes() {
        Set<String> open = new TreeSet<>();
        for (Method method : LotteryOfLosses.class.getDeclaredMethods()) {
            if (Modifier.isPublic(method.getModifiers())) {
                open.add(method.getName());
            }
        }
        List<Class<?>> all = new ArrayList<>(List.of(LotteryOfLosses.class.getDeclaredClasses()));
        if (all.size() > 11) {
            fault("classes: " + all.size());
        }
        all.add(LotteryOfLosses.class);
        for (Class<?> c : all) {
            if (c != LotteryOfLosses.class && !Modifier.isStatic(c.getModifiers())) {
                fault("not static: " + c);
            }
            int fields = 0;
            for (Field field : c.getDeclaredFields()) {
                fields += Modifier.isStatic(field.getModifiers()) ? 0 : 1;
                if (Modifier.isStatic(field.getModifiers()) && !Modifier.isFinal(field.getModifiers())) {
                    fault("static, not final: " + field);
                }
            }
            if (fields > 20) {
                fault("fields of " + c + ": " + fields);
            }
            for (Method method : c.getDeclaredMethods()) {
                if (method.getParameterCount() > 7) {
                    fault("parameters: " + method);
                }
                if (!Modifier.isPublic(method.getModifiers()) && open.contains(method.getName())) {
                    fault("a name of the face: " + method);
                }
            }
        }
    }

    private static void words() throws Exception {
        String code = Files.readString(SOURCE).replaceAll("/\\*[\\s\\S]*?\\*/|//.*", "");
        for (String word : new String[] {"throw", "throws", "try", "catch", "synchronized", "assert", "var", "record", "package",
            "Exception", "Object", "Random", "Thread", "System\\.(?!arraycopy)", "Arrays\\.(?!fill|copyOf)", "\\w+Exact",
            "import (?!java\\.util\\.Arrays;)", "static \\{"}) {
            if (Pattern.compile("(?<!\\w)" + word + (word.endsWith("{") || word.contains("(?!") ? "" : "\\b")).matcher(code).find()) {
                fault("a word that the language leaves out: " + word);
            }
        }
        for (String sign : new String[] {"->", "::", "@", "\" +", "+ \""}) {
            if (code.contains(sign)) {
                fault("a sign that the language leaves out: " + sign);
            }
        }
        if (code.chars().anyMatch(c -> c > 126)) {
            fault("a letter beyond 126");
        }
    }

    private static void lengths() throws Exception {
        List<String> lines = Files.readAllLines(SOURCE);
        int begin = -1;
        String indent = "";
        for (int i = 0; i < lines.size(); i++) {
            Matcher m = Pattern.compile("^( {4}| {8})(?! )[^=;]*\\) \\{$").matcher(lines.get(i));
            if (m.find()) {
                begin = i;
                indent = m.group(1);
            } else if (begin >= 0 && lines.get(i).equals(indent + "}")) {
                if (i - begin > 60) {
                    fault("longer than sixty lines: " + lines.get(begin).trim());
                }
                begin = -1;
            }
        }
    }
}
