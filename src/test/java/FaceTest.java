import java.io.IOException;
import java.lang.reflect.Constructor;
import java.lang.reflect.Field;
import java.lang.reflect.Method;
import java.lang.reflect.Modifier;
import java.nio.file.Files;
import java.nio.file.Path;
import java.util.Arrays;
import java.util.Set;
import java.util.TreeSet;
import java.util.regex.Matcher;
import java.util.regex.Pattern;

/** The public face is the document's, no more and no less, and the file keeps to what LANGUAGE.md lets be seen. */
public final class FaceTest {
    private static final String FACE = """
        int feed(int,int,int,int,int)
        boolean end(int)
        int parish()
        int fault()
        int corner(int,int,int) NoSuchElementException
        int hay(int,int) NoSuchElementException
        int line(int,int)
        int whose(int,int,int)
        int round(int,int,int) NoSuchElementException
        int square(int,int,int)
        int acres(int)
        int border(int)
        int within(int,int)
        int claims(int)
        int wrong()
        int loads(int,int)
        int heir(int,int)
        int estate(int)
        int pieces(int)
        int piece(int,int,int)
        int pieceAt(int,int,int)
        int crosses(int,int,int,int)
        int walk(int,int)
        int walked(int)
        int least(int,int,int)
        int stiles(int)
        boolean move(int,int,int,int)
        boolean shift(int,int,int)
        int moved(int,int,int,int,int)
        int nights(int,int)
        int undo()
        int byNight(int,int)
        int ways()
        int way(int,int)
        int rectangle()
        int side(int)
        int paces()
        int paced(int)
        boolean image(int)
        boolean restore(int)
        int count(int)
        """;

    private static int wrong;

    private static void due(String what, Object want, Object got) {
        if (!want.equals(got)) {
            wrong++;
            System.out.println("face: " + what + " is " + got + ", due is " + want);
        }
    }

    public static void main(String[] args) throws IOException {
        methods();
        fields();
        classes();
        text(Files.readString(Path.of(args.length > 0 ? args[0] : "src/main/java/OddHay.java")));
        System.out.println(wrong == 0 ? "face: as due" : "face: " + wrong + " wrong");
        System.exit(wrong == 0 ? 0 : 1);
    }

    private static String signature(Method method) {
        StringBuilder text = new StringBuilder(method.getReturnType().getSimpleName()).append(' ')
            .append(method.getName()).append('(');
        for (Class<?> type : method.getParameterTypes()) {
            text.append(text.charAt(text.length() - 1) == '(' ? "" : ",").append(type.getSimpleName());
        }
        text.append(')');
        for (Class<?> type : method.getExceptionTypes()) {
            text.append(' ').append(type.getSimpleName());
        }
        return text.toString();
    }

    private static void methods() {
        Set<String> open = new TreeSet<>();
        Set<String> names = new TreeSet<>();
        for (Method method : OddHay.class.getDeclaredMethods()) {
            if (!Modifier.isPrivate(method.getModifiers())) {
                due(method + " is public and no static one", 1, method.getModifiers());
                open.add(signature(method));
                names.add(method.getName());
            }
        }
        due("the methods", new TreeSet<>(Arrays.asList(FACE.split("\n"))), open);
        Constructor<?>[] makers = OddHay.class.getDeclaredConstructors();
        due("constructors", 1, makers.length);
        due("the constructor", "public OddHay()", makers[0].toString());
        due("the class is public and final", Modifier.PUBLIC | Modifier.FINAL, OddHay.class.getModifiers());
        Set<Class<?>> all = new java.util.HashSet<>(Arrays.asList(OddHay.class.getDeclaredClasses()));
        all.add(OddHay.class);
        for (Class<?> one : all) {
            for (Method method : one.getDeclaredMethods()) {
                boolean face = one == OddHay.class && !Modifier.isPrivate(method.getModifiers());
                due(method + " bears a name of the face", face, names.contains(method.getName()));
                due(method + " has at most seven parameters", true, method.getParameterCount() <= 7);
            }
        }
    }

    private static void fields() {
        for (Field field : OddHay.class.getDeclaredFields()) {
            if (!Modifier.isPrivate(field.getModifiers())) {
                due("an open field", "public static final int OddHay.NONE", field.toString());
            }
        }
    }

    private static void classes() {
        Class<?>[] inside = OddHay.class.getDeclaredClasses();
        due("classes", true, inside.length + 1 <= 12);
        for (Class<?> one : inside) {
            due(one + " is static", true, Modifier.isStatic(one.getModifiers()));
            due(one + " is not open", false, Modifier.isPublic(one.getModifiers()));
            long held = Arrays.stream(one.getDeclaredFields()).filter(f -> !Modifier.isStatic(f.getModifiers())).count();
            due(one + " has some twenty fields", true, held <= 20);
            for (Field field : one.getDeclaredFields()) {
                due(field + " is final if static", true,
                    !Modifier.isStatic(field.getModifiers()) || Modifier.isFinal(field.getModifiers()));
            }
        }
    }

    private static void text(String source) {
        String code = source.replaceAll("(?s)/\\*.*?\\*/", "").replaceAll("//[^\n]*", "");
        String[] never = {"->", "::", "\\btry\\b", "\\bcatch\\b", "\\bfinally\\b", "\\bsynchronized\\b", "\\bassert\\b",
            "\\bstatic \\{", "\\bpackage\\b", "Exact\\b", "\\bSystem\\.(?!arraycopy)", "\\bvar\\b", "\\brecord\\b",
            "\\bThread\\b", "\\bRandom\\b", "\\.equals\\(", "\\bhashCode\\b", "\\btoString\\b", "\\bdouble\\b"};
        for (String form : never) {
            due("'" + form + "' in the code", false, Pattern.compile(form).matcher(code).find());
        }
        Set<String> imports = new TreeSet<>();
        Matcher found = Pattern.compile("import ([\\w.]+);").matcher(code);
        while (found.find()) {
            imports.add(found.group(1));
        }
        due("imports", Set.of("java.util.Arrays", "java.util.NoSuchElementException"), imports);
        due("signs beyond 127", false, source.chars().anyMatch(c -> c > 127));
        int start = 0;
        String[] lines = source.split("\n");
        for (int i = 0; i < lines.length; i++) {
            if (lines[i].matches(" {4,8}[^ */}].*\\) (throws \\w+ )?\\{") && !lines[i].contains(" class ")) {
                start = i;
            }
            due("line " + (i + 1) + ", how far its method goes", true, i - start <= 60 || start == 0
                || !lines[i].startsWith("            "));
        }
    }
}
