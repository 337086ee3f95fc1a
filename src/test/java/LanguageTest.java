import java.lang.reflect.Constructor;
import java.lang.reflect.Field;
import java.lang.reflect.Method;
import java.lang.reflect.Modifier;
import java.nio.file.Files;
import java.nio.file.Path;
import java.util.Set;
import java.util.TreeSet;
import java.util.regex.Matcher;
import java.util.regex.Pattern;

/** What of LANGUAGE.md and of the public face can be seen from outside: members, forbidden words, kinds of fields. */
public final class LanguageTest {
    private static final String[] FACE = {
        "int feed(int,int,int,int,int)", "boolean end(int)", "int text()", "int fault(int)", "int court(int)",
        "int word(int,int)", "int bench(int,int)", "int grammar(int,int)", "int row(int,boolean)", "int say(int,int)",
        "boolean back()", "int clear()", "boolean line(int,boolean)", "int sense()", "int means(int,int)",
        "int exact(int)", "int ruling(int)", "int instance(int,int)", "int plan(int,int,int,int)", "int all(int)",
        "int one(int)", "int ill(int)", "int between(int,int)", "int game(int,int)", "int place(int)",
        "int turned(int)", "int cases(int)", "int order(int,int)", "int lots(int)", "boolean seed(int)",
        "int odds(int)", "int parts(int,int,int)", "int inn(int,int)", "long ask()", "int image()", "int octet(int)",
        "boolean restore()", "int status(int)"};

    private static final String FORBIDDEN = "\\b(import|package|throw|throws|try|catch|finally|synchronized|assert|"
        + "Object|System\\.(?!arraycopy)\\w+|Random|Thread|protected|volatile|transient|native|var|null)\\b|->|::|Exact\\(";

    private static void face() {
        Set<String> due = new TreeSet<>(Set.of(FACE));
        Set<String> names = new TreeSet<>();
        Set<String> seen = new TreeSet<>();
        for (Method m : WordEach.class.getDeclaredMethods()) {
            if (Modifier.isPrivate(m.getModifiers())) {
                continue;
            }
            Check.due("public: " + m, m.getModifiers(), Modifier.PUBLIC);
            StringBuilder call = new StringBuilder(m.getReturnType().getName()).append(' ').append(m.getName());
            call.append('(');
            for (Class<?> type : m.getParameterTypes()) {
                call.append(call.charAt(call.length() - 1) == '(' ? "" : ",").append(type.getName());
            }
            seen.add(call.append(')').toString());
            names.add(m.getName());
        }
        Check.due("the face is " + seen, seen.equals(due), true);
        Check.due("public and final", WordEach.class.getModifiers(), Modifier.PUBLIC | Modifier.FINAL);
        Constructor<?>[] constructors = WordEach.class.getDeclaredConstructors();
        Check.due("one constructor", constructors.length, 1);
        Check.due("public", constructors[0].getModifiers(), Modifier.PUBLIC);
        Check.due("without arguments", constructors[0].getParameterCount(), 0);
        Check.due("NONE", WordEach.NONE, -1);
        Check.due("NOTHING", WordEach.NOTHING, -1000000000000000L);
        ownNames(WordEach.class, names);
        for (Class<?> c : WordEach.class.getDeclaredClasses()) {
            Check.due("static: " + c, Modifier.isStatic(c.getModifiers()) && !Modifier.isPublic(c.getModifiers()), true);
            ownNames(c, names);
            fields(c);
        }
        fields(WordEach.class);
        Check.due("classes", WordEach.class.getDeclaredClasses().length < 12, true);
    }

    private static void ownNames(Class<?> c, Set<String> names) {
        for (Method m : c.getDeclaredMethods()) {
            boolean isFace = c == WordEach.class && Modifier.isPublic(m.getModifiers());
            Check.due("a name of its own: " + m, isFace || !names.contains(m.getName()), true);
            Check.due("parameters: " + m, m.getParameterCount() <= 7, true);
        }
    }

    private static void fields(Class<?> c) {
        int own = 0;
        for (Field f : c.getDeclaredFields()) {
            boolean isStatic = Modifier.isStatic(f.getModifiers());
            Check.due("static is final: " + f, !isStatic || Modifier.isFinal(f.getModifiers()), true);
            boolean isConstant = c == WordEach.class && Modifier.isPublic(f.getModifiers());
            boolean isPrivate = c != WordEach.class || Modifier.isPrivate(f.getModifiers());
            Check.due("private or one of the two: " + f, isPrivate || isConstant && isStatic, true);
            own += isStatic ? 0 : 1;
        }
        Check.due("fields of " + c, own <= 20, true);
    }

    private static String bare(String source) {
        String plain = source.replaceAll("(?s)/\\*.*?\\*/", " ").replaceAll("//[^\n]*", " ");
        return plain.replaceAll("\"(\\\\.|[^\"\\\\])*\"", "\"\"").replaceAll("'(\\\\.|[^'\\\\])'", "' '");
    }

    private static void source() throws Exception {
        String source = Files.readString(Path.of("src/main/java/WordEach.java"));
        for (int i = 0; i < source.length(); i++) {
            Check.due("sign " + i, source.charAt(i) < 128, true);
        }
        Matcher forbidden = Pattern.compile(FORBIDDEN).matcher(bare(source));
        while (forbidden.find()) {
            Check.due("forbidden: " + forbidden.group(), 1, 0);
        }
        int from = 0;
        String[] lines = source.split("\n");
        for (int i = 0; i < lines.length; i++) {
            if (lines[i].matches("( {4}| {8})[a-zA-Z].*\\(.*\\) \\{")) {
                from = i;
            }
            if (lines[i].matches("( {4}| {8})\\}")) {
                Check.due("method of " + (i - from) + " lines at " + (from + 1), i - from <= 60 || from == 0
                    || lines[i].startsWith("    }") && lines[from].startsWith("        "), true);
            }
        }
    }

    public static void main(String[] args) throws Exception {
        face();
        source();
        Check.over("LanguageTest");
    }
}
