import java.io.IOException;
import java.lang.reflect.Constructor;
import java.lang.reflect.Field;
import java.lang.reflect.Method;
import java.lang.reflect.Modifier;
import java.nio.charset.StandardCharsets;
import java.nio.file.Files;
import java.nio.file.Path;
import java.util.ArrayList;
import java.util.Collections;
import java.util.HashSet;
import java.util.List;
import java.util.Set;
import java.util.regex.Matcher;
import java.util.regex.Pattern;

/** The face as the document has it, and rules of LANGUAGE.md that can be seen from the text of the program. */
public final class LanguageTest {
    private static int wrong = 0;

    public static void main(String[] args) throws IOException {
        String source = Files.readString(Path.of("src/main/java/OneStepMore.java"), StandardCharsets.UTF_8);
        face(Files.readString(Path.of("../shared/DOC.md"), StandardCharsets.UTF_8));
        words(source);
        sizes(source);
        System.out.println(wrong == 0 ? "the language is kept to" : wrong + " rules are broken");
        if (wrong != 0) {
            System.exit(1);
        }
    }

    private static void fault(String what) {
        wrong++;
        System.out.println(what);
    }

    private static void face(String doc) {
        String face = doc.substring(doc.indexOf("```java"), doc.indexOf("## Terms"));
        List<String> due = new ArrayList<>();
        Matcher m = Pattern.compile("public (\\w+ )?(\\w+)\\(([^)]*)\\);").matcher(face);
        while (m.find()) {
            if (m.group(1) != null) {
                StringBuilder types = new StringBuilder();
                for (String parameter : m.group(3).isEmpty() ? new String[0] : m.group(3).split(", ")) {
                    types.append(parameter.split(" ")[0]).append(' ');
                }
                due.add(m.group(1) + m.group(2) + " " + types);
            }
        }
        List<String> got = new ArrayList<>();
        Set<String> names = new HashSet<>();
        for (Method method : OneStepMore.class.getDeclaredMethods()) {
            if (Modifier.isPublic(method.getModifiers())) {
                StringBuilder types = new StringBuilder();
                for (Class<?> type : method.getParameterTypes()) {
                    types.append(type.getName()).append(' ');
                }
                got.add(method.getReturnType().getName() + " " + method.getName() + " " + types);
                names.add(method.getName());
            } else if (!Modifier.isPrivate(method.getModifiers())) {
                fault("rule 1: " + method);
            }
        }
        Collections.sort(due);
        Collections.sort(got);
        if (!due.equals(got) || due.size() != 42) {
            fault("rule 1: the face is " + got + ", due is " + due);
        }
        for (Field field : OneStepMore.class.getDeclaredFields()) {
            if (!Modifier.isPrivate(field.getModifiers()) && !field.getName().equals("NONE")) {
                fault("rule 1: " + field);
            }
            if (Modifier.isStatic(field.getModifiers()) && !Modifier.isFinal(field.getModifiers())) {
                fault("rule 5: " + field);
            }
        }
        Constructor<?>[] constructors = OneStepMore.class.getDeclaredConstructors();
        if (constructors.length != 1 || !Modifier.isPublic(constructors[0].getModifiers())) {
            fault("rule 1: the constructor");
        }
        if (OneStepMore.class.getDeclaredClasses().length > 12) {
            fault("rule 11: too many classes");
        }
        for (Class<?> inside : OneStepMore.class.getDeclaredClasses()) {
            int fields = 0;
            for (Field field : inside.getDeclaredFields()) {
                fields += Modifier.isStatic(field.getModifiers()) ? 0 : 1;
            }
            if (fields > 20) {
                fault("rule 11: " + inside.getName() + " has " + fields + " fields");
            }
            if (!Modifier.isStatic(inside.getModifiers()) || Modifier.isPublic(inside.getModifiers())) {
                fault("rule 2: " + inside);
            }
            for (Method method : inside.getDeclaredMethods()) {
                if (names.contains(method.getName())) {
                    fault("rule 1: " + method + " bears the name of a public one");
                }
                if (method.getParameterCount() > 7) {
                    fault("rule 11: " + method);
                }
            }
        }
    }

    private static void words(String source) {
        String bare = source.replaceAll("(?s)/\\*.*?\\*/", "").replaceAll("//[^\n]*", "")
            .replaceAll("'(\\\\.|[^'])'", "0").replaceAll("\"[^\"]*\"", "TEXT");
        String[] banned = {
            "\\bthrow\\b", "\\btry\\b", "\\bcatch\\b", "\\bsynchronized\\b", "\\bassert\\b", "\\bfinally\\b", "->", "::",
            "\\bSystem\\.(?!arraycopy)", "\\bfloat\\b", "\\bdouble\\b", "\\bequals\\b", "\\bhashCode\\b", "\\btoString\\b",
            "Exact\\b", "\\bprotected\\b", "static \\{", "\\bThread\\b", "\\bObject\\b", "while \\(true\\)", "for \\(;;"};
        for (String word : banned) {
            if (Pattern.compile(word).matcher(bare).find()) {
                fault("banned: " + word);
            }
        }
        Matcher m = Pattern.compile("import ([^;]*);").matcher(bare);
        while (m.find()) {
            if (!m.group(1).equals("java.util.Arrays")) {
                fault("rule 4: " + m.group());
            }
        }
        m = Pattern.compile("Arrays\\.(\\w+)").matcher(bare);
        while (m.find()) {
            if (!List.of("fill", "copyOf").contains(m.group(1))) {
                fault("rule 4: " + m.group());
            }
        }
        for (int i = 0; i < source.length(); i++) {
            if (source.charAt(i) > 126) {
                fault("a sign beyond 126");
            }
        }
    }

    private static void sizes(String source) {
        int from = -1;
        String[] lines = source.split("\n");
        for (int i = 0; i < lines.length; i++) {
            if (lines[i].matches(" {4,8}(private |public |static |final )*[\\w<>\\[\\]]+ ?\\w*\\([^;]*\\) \\{")) {
                from = i;
            } else if (from >= 0 && lines[i].matches(" {4,8}\\}")) {
                if (i - from > 60) {
                    fault("rule 11: " + lines[from].trim() + " has " + (i - from) + " lines");
                }
                from = -1;
            }
        }
    }
}
