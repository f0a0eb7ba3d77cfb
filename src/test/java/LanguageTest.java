import java.io.IOException;
import java.lang.reflect.Constructor;
import java.lang.reflect.Field;
import java.lang.reflect.Method;
import java.lang.reflect.Modifier;
import java.nio.file.Files;
import java.nio.file.Path;
import java.util.ArrayList;
import java.util.List;
import java.util.TreeSet;
import java.util.regex.Matcher;
import java.util.regex.Pattern;

/** The face of the document, and the rules of LANGUAGE.md that a machine can see. Run from the project's root. */
public final class LanguageTest {
    private static final Path SOURCE = Path.of("src/main/java/StairPortraits.java");
    private static final String[] FACE = {
        "feed(int)", "house()", "fault()", "told(int)", "picture(int,int)", "on(int,int)", "coming(int,int)",
        "hang(int,int,int)", "turn(int,int)", "wall(int,boolean)", "hour(int)", "drift(int)", "when(int,int)",
        "hidden(int)", "turns(int,int,int,int,int)", "walled(int,int,int,int)", "kinds(int,int,int)", "all(int,int)",
        "common(int)", "safe(int,int)", "ask(int,int,boolean)", "came(int,int)", "next(int)", "write(int,int)",
        "tear()", "judge()", "seed(int)", "keep(int)", "goBack(int)"};
    private static final List<String> LIBRARY = List.of("Math.max", "Math.min", "Arrays.fill", "System.arraycopy");

    public static void main(String[] args) throws IOException {
        face();
        classes();
        source();
        library();
        lengths();
        Check.end();
    }

    private static void face() {
        Class<?> c = StairPortraits.class;
        Check.due("public final class", Modifier.isPublic(c.getModifiers()) && Modifier.isFinal(c.getModifiers()));
        TreeSet<String> open = new TreeSet<>();
        TreeSet<String> names = new TreeSet<>();
        for (Method m : c.getDeclaredMethods()) {
            if (!Modifier.isPrivate(m.getModifiers())) {
                Check.due(m + " is public, of the object, answers int", Modifier.isPublic(m.getModifiers())
                    && !Modifier.isStatic(m.getModifiers()) && m.getReturnType() == int.class);
                open.add(signature(m));
                names.add(m.getName());
            }
        }
        Check.due("the methods are those of the document: " + open, open.equals(new TreeSet<>(List.of(FACE))));
        for (Class<?> any : all()) {
            for (Method m : any.getDeclaredMethods()) {
                boolean ofTheFace = any == c && Modifier.isPublic(m.getModifiers());
                Check.due(m + " has a name of its own", ofTheFace || !names.contains(m.getName()));
            }
        }
        TreeSet<String> constants = new TreeSet<>();
        for (Field f : c.getDeclaredFields()) {
            if (!Modifier.isPrivate(f.getModifiers())) {
                constants.add(f.getName());
            }
        }
        Check.due("the constants", constants.equals(new TreeSet<>(List.of("NONE", "UNKNOWN", "OUTSIDE", "NOT", "FULL"))));
        Constructor<?>[] makers = c.getDeclaredConstructors();
        Check.due("one public constructor", makers.length == 1 && Modifier.isPublic(makers[0].getModifiers())
            && makers[0].getParameterCount() == 0);
    }

    private static String signature(Method m) {
        StringBuilder s = new StringBuilder(m.getName()).append('(');
        for (Class<?> p : m.getParameterTypes()) {
            s.append(s.charAt(s.length() - 1) == '(' ? "" : ",").append(p.getName());
        }
        return s.append(')').toString();
    }

    private static List<Class<?>> all() {
        List<Class<?>> all = new ArrayList<>();
        all.add(StairPortraits.class);
        all.addAll(List.of(StairPortraits.class.getDeclaredClasses()));
        return all;
    }

    private static void classes() {
        Check.due("at most twelve classes", all().size() <= 12);
        for (Class<?> c : all()) {
            int fields = 0;
            for (Field f : c.getDeclaredFields()) {
                if (Modifier.isStatic(f.getModifiers())) {
                    Check.due(f + " is final", Modifier.isFinal(f.getModifiers()));
                } else {
                    fields++;
                }
            }
            Check.due("at most twenty fields in " + c, fields <= 20);
            for (Method m : c.getDeclaredMethods()) {
                Check.due(m + " takes at most seven", m.getParameterCount() <= 7);
            }
            if (c != StairPortraits.class) {
                Check.due(c + " is static and not public", Modifier.isStatic(c.getModifiers())
                    && !Modifier.isPublic(c.getModifiers()) && !Modifier.isProtected(c.getModifiers()));
            }
        }
    }

    private static String withoutComments() throws IOException {
        return Files.readString(SOURCE).replaceAll("(?s)/\\*.*?\\*/", " ").replaceAll("//[^\n]*", " ");
    }

    private static void source() throws IOException {
        String text = withoutComments();
        String[] words = {"throw", "throws", "try", "catch", "finally", "synchronized", "assert", "package", "protected", "native",
            "volatile", "Object", "Math\\.\\w+Exact"};
        for (String word : words) {
            Check.due("no " + word, !text.matches("(?s).*\\b" + word + "\\b.*"));
        }
        Check.due("no lambda, no method reference", !text.contains("->") && !text.contains("::"));
        Check.due("no import but of Arrays", text.replace("import java.util.Arrays;", "").indexOf("import ") < 0);
        for (int k = 0; k < text.length(); k++) {
            Check.due("plain letters in the source", text.charAt(k) < 128);
        }
    }

    /** What is called of the library is of rule 4; and all that is made is of an own class or a row of numbers. */
    private static void library() throws IOException {
        String text = withoutComments();
        Matcher call = Pattern.compile("\\b([A-Z]\\w*\\.\\w+)\\s*\\(").matcher(text);
        while (call.find()) {
            Check.due(call.group(1) + " is of the library that may be used", LIBRARY.contains(call.group(1)));
        }
        TreeSet<String> own = new TreeSet<>();
        for (Class<?> c : all()) {
            own.add(c.getSimpleName());
        }
        Matcher made = Pattern.compile("\\bnew\\s+(\\w+)").matcher(text);
        while (made.find()) {
            Check.due("new " + made.group(1), made.group(1).equals("int") || own.contains(made.group(1)));
        }
    }

    /** Rule 11: a method stays short. It ends where a brace closes as far in as the method began. */
    private static void lengths() throws IOException {
        List<String> lines = Files.readAllLines(SOURCE);
        Pattern head = Pattern.compile("^((?:    ){1,2})[\\w\\[\\]]+(?: [\\w\\[\\]]+)*\\(.*\\) \\{$");
        int methods = 0;
        for (int start = 0; start < lines.size(); start++) {
            Matcher line = head.matcher(lines.get(start));
            if (line.matches()) {
                methods++;
                int end = start;
                while (end < lines.size() && !lines.get(end).equals(line.group(1) + "}")) {
                    end++;
                }
                Check.due("at most sixty lines:" + lines.get(start), end < lines.size() && end - start < 60);
            }
        }
        Check.due("methods are found: " + methods, methods > FACE.length);
    }
}
