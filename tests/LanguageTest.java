import java.lang.reflect.Constructor;
import java.lang.reflect.Field;
import java.lang.reflect.Method;
import java.lang.reflect.Modifier;
import java.nio.charset.StandardCharsets;
import java.nio.file.Files;
import java.nio.file.Path;
import java.util.ArrayList;
import java.util.List;
import java.util.Set;
import java.util.TreeSet;
import java.util.regex.Matcher;
import java.util.regex.Pattern;

/** The face of the document, and those rules of LANGUAGE.md that a look at the class and its text can tell. */
public final class LanguageTest {
    private static final Check CHECK = new Check("LanguageTest");

    public static void main(String[] args) throws Exception {
        face();
        members();
        source();
        CHECK.finish();
    }

    private static void no(String fault, boolean seen) {
        CHECK.due(fault, seen ? 1 : 0, 0);
    }

    private static void face() throws Exception {
        Set<String> due = new TreeSet<>();
        String document = Files.readString(Path.of("../shared/DOC.md"), StandardCharsets.UTF_8);
        Matcher m = Pattern.compile("public (\\w+) (\\w+)\\(([^)]*)\\);").matcher(document);
        while (m.find()) {
            due.add(m.group(1) + " " + m.group(2) + "(" + m.group(3).replaceAll("(\\w+) \\w+", "$1").replace(" ", "") + ")");
        }
        Set<String> got = new TreeSet<>();
        for (Method method : NextBest.class.getDeclaredMethods()) {
            if (Modifier.isPublic(method.getModifiers())) {
                List<String> types = new ArrayList<>();
                for (Class<?> type : method.getParameterTypes()) {
                    types.add(type.getName());
                }
                got.add(method.getReturnType().getName() + " " + method.getName() + "(" + String.join(",", types) + ")");
            }
        }
        CHECK.due("how many methods the face has", due.size(), 46);
        no("methods " + got + " for " + due, !got.equals(due));
        no("the class is not public and final", NextBest.class.getModifiers() != (Modifier.PUBLIC | Modifier.FINAL));
        Constructor<?>[] made = NextBest.class.getDeclaredConstructors();
        no("other constructors", made.length != 1 || made[0].getParameterCount() != 0 || !Modifier.isPublic(made[0].getModifiers()));
    }

    private static void members() {
        Set<String> publicNames = new TreeSet<>();
        for (Method method : NextBest.class.getDeclaredMethods()) {
            if (Modifier.isPublic(method.getModifiers())) {
                publicNames.add(method.getName());
            } else {
                no("a method that is neither public nor private: " + method, !Modifier.isPrivate(method.getModifiers()));
            }
        }
        Set<String> publicFields = new TreeSet<>();
        for (Field field : NextBest.class.getDeclaredFields()) {
            if (Modifier.isPublic(field.getModifiers())) {
                publicFields.add(field.getName());
            } else {
                no("a field that is neither public nor private: " + field, !Modifier.isPrivate(field.getModifiers()));
            }
        }
        no("public fields " + publicFields, !publicFields.equals(Set.of("NONE", "NO_SUCH", "NEVER")));
        List<Class<?>> classes = new ArrayList<>(List.of(NextBest.class.getDeclaredClasses()));
        no("more than twelve classes", classes.size() > 11);
        for (Class<?> c : classes) {
            no("a class that is not static or is public: " + c, !Modifier.isStatic(c.getModifiers()) || Modifier.isPublic(c.getModifiers()));
            for (Method method : c.getDeclaredMethods()) {
                no("a method with a public one's name: " + method, publicNames.contains(method.getName()));
            }
        }
        classes.add(NextBest.class);
        for (Class<?> c : classes) {
            int fields = 0;
            for (Field field : c.getDeclaredFields()) {
                boolean still = Modifier.isStatic(field.getModifiers());
                fields += still ? 0 : 1;
                no("a static field that is not final: " + field, still && !Modifier.isFinal(field.getModifiers()));
            }
            no("more than twenty fields: " + c, fields > 20);
            for (Method method : c.getDeclaredMethods()) {
                no("more than seven parameters: " + method, method.getParameterCount() > 7);
                boolean twin = c == NextBest.class && Modifier.isPrivate(method.getModifiers()) && publicNames.contains(method.getName());
                no("a private method with a public one's name: " + method, twin);
            }
        }
    }

    private static void source() throws Exception {
        String text = Files.readString(Path.of("src/main/java/NextBest.java"), StandardCharsets.UTF_8);
        for (int i = 0; i < text.length(); i++) {
            no("a sign beyond 127 at " + i, text.charAt(i) > 127);
        }
        String bare = text.replaceAll("(?s)/\\*.*?\\*/", "").replaceAll("//[^\n]*", "");
        String words = "throw|throws|try|catch|synchronized|assert|import|package|native|volatile|transient|strictfp|hashCode|toString";
        Matcher m = Pattern.compile("\\b(" + words + ")\\b|->|::|@").matcher(bare);
        no("a word that the language leaves out", m.find());
        int from = 0;
        String[] lines = text.split("\n");
        for (int i = 0; i < lines.length; i++) {
            if (lines[i].matches(" {4,8}\\S.*\\) \\{")) {
                from = i;
            }
            if (lines[i].matches(" {4}\\}| {8}\\}")) {
                no("a method of more than sixty lines ends at " + (i + 1), from > 0 && i - from >= 60 && !lines[i].equals("    }"));
            }
            no("a line of more than 120 signs: " + (i + 1), lines[i].length() > 120);
        }
    }
}
