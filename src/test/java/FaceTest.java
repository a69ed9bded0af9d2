import java.io.IOException;
import java.lang.reflect.Constructor;
import java.lang.reflect.Field;
import java.lang.reflect.Method;
import java.lang.reflect.Modifier;
import java.nio.file.Files;
import java.nio.file.Path;
import java.util.ArrayList;
import java.util.List;
import java.util.Set;
import java.util.TreeSet;
import java.util.regex.Matcher;
import java.util.regex.Pattern;

/** The public face as the document tells it, and the rules of LANGUAGE.md that can be looked up. */
public final class FaceTest {
    private static final Path SOURCE = Path.of("src/main/java/CastOffs.java");

    private static final Set<String> FACE = Set.of(
            "int feed(int, long)", "int spit()", "int fault()", "int told(int)", "int house(int, int)",
            "int worth(int, int)", "int part(int, int)", "int hand(int, int)", "int toss(int, int)",
            "int take(int, int)", "int ashore(int)", "int first(int)", "int week(int)", "int drift(int)",
            "int begin()", "int gain(int, int)", "int down(int, int, int)", "int chain(int, int)",
            "int rings(int, int)", "int odds(int, int)", "int waits(int, int, int)",
            "int turnsAt(int, int, int, int, int)", "int write(int, int, boolean)", "int tear()", "int judge()",
            "int seed(int)", "int keep(int)", "int goBack(int)");

    private static int wrong = 0;

    private static void holds(String what, boolean is) {
        if (!is) {
            wrong++;
            System.out.println("not so: " + what);
        }
    }

    private static String signature(Method m) {
        List<String> types = new ArrayList<>();
        for (Class<?> type : m.getParameterTypes()) {
            types.add(type.getSimpleName());
        }
        return m.getReturnType().getSimpleName() + " " + m.getName() + "(" + String.join(", ", types) + ")";
    }

    private static void face() {
        int mods = CastOffs.class.getModifiers();
        holds("the class is public and final", Modifier.isPublic(mods) && Modifier.isFinal(mods));
        Set<String> found = new TreeSet<>();
        Set<String> publicNames = new TreeSet<>();
        for (Method m : CastOffs.class.getDeclaredMethods()) {
            if (Modifier.isPublic(m.getModifiers())) {
                found.add(signature(m));
                publicNames.add(m.getName());
            } else {
                holds(m + " is private", Modifier.isPrivate(m.getModifiers()));
            }
        }
        holds("the methods are those of the document: " + found, found.equals(FACE));
        holds("private methods have names of their own", privateNamesDiffer(publicNames));
        Constructor<?>[] constructors = CastOffs.class.getDeclaredConstructors();
        holds("one public constructor", constructors.length == 1 && Modifier.isPublic(constructors[0].getModifiers())
                && constructors[0].getParameterCount() == 0);
        constants();
    }

    private static boolean privateNamesDiffer(Set<String> publicNames) {
        List<Class<?>> classes = new ArrayList<>(List.of(CastOffs.class.getDeclaredClasses()));
        classes.add(CastOffs.class);
        boolean differ = true;
        for (Class<?> c : classes) {
            for (Method m : c.getDeclaredMethods()) {
                differ &= Modifier.isPublic(m.getModifiers()) || !publicNames.contains(m.getName());
            }
        }
        return differ;
    }

    private static void constants() {
        Set<String> names = new TreeSet<>();
        for (Field f : CastOffs.class.getDeclaredFields()) {
            if (Modifier.isPublic(f.getModifiers())) {
                names.add(f.getName());
                holds(f + " is a constant", Modifier.isStatic(f.getModifiers()) && Modifier.isFinal(f.getModifiers()));
            } else {
                holds(f + " is private", Modifier.isPrivate(f.getModifiers()));
            }
        }
        holds("the constants are those of the document", names.equals(Set.of("NONE", "UNKNOWN", "OUTSIDE", "NOT", "FULL")));
        holds("NONE", CastOffs.NONE == -1);
        holds("UNKNOWN", CastOffs.UNKNOWN == -1000000001);
        holds("OUTSIDE", CastOffs.OUTSIDE == -1000000002);
        holds("NOT", CastOffs.NOT == -1000000003);
        holds("FULL", CastOffs.FULL == -1000000004);
    }

    private static void classesInside() {
        Class<?>[] inside = CastOffs.class.getDeclaredClasses();
        holds("at most twelve classes", inside.length < 12);
        for (Class<?> c : inside) {
            holds(c + " is static", Modifier.isStatic(c.getModifiers()));
            holds(c + " is not public", !Modifier.isPublic(c.getModifiers()) && !Modifier.isProtected(c.getModifiers()));
        }
        List<Class<?>> all = new ArrayList<>(List.of(inside));
        all.add(CastOffs.class);
        for (Class<?> c : all) {
            int fields = 0;
            for (Field f : c.getDeclaredFields()) {
                boolean isStatic = Modifier.isStatic(f.getModifiers());
                fields += isStatic ? 0 : 1;
                holds(f + " is final if static", !isStatic || Modifier.isFinal(f.getModifiers()));
            }
            holds(c + " has at most twenty fields: " + fields, fields <= 20);
            for (Method m : c.getDeclaredMethods()) {
                holds(m + " takes at most seven", m.getParameterCount() <= 7);
            }
        }
    }

    private static void words(String source) {
        String code = source.replaceAll("(?s)/\\*.*?\\*/", "").replaceAll("//[^\n]*", "");
        String[] ruledOut = {"throw", "throws", "try", "catch", "synchronized", "assert", "protected", "package",
            "Exact", "->", "::", "hashCode", "toString", "record", "System\\.(?!arraycopy)", "Integer", "Long", "Object"};
        for (String word : ruledOut) {
            Matcher m = Pattern.compile(Character.isLetter(word.charAt(0)) ? "\\b" + word + "\\b" : word).matcher(code);
            if (word.startsWith("System")) {
                m = Pattern.compile("\\bSystem\\.(?!arraycopy)").matcher(code);
            }
            holds("the source is without " + word, !m.find());
        }
        holds("only Arrays is brought in", code.replace("import java.util.Arrays;", "").indexOf("import ") < 0);
        for (char c : source.toCharArray()) {
            holds("plain signs alone", c == '\n' || c >= ' ' && c < 127);
        }
    }

    /** Calls of a class's own functions: all that is brought in from the library goes this way, but for texts. */
    private static void library(String source) {
        String code = source.replaceAll("(?s)/\\*.*?\\*/", "").replaceAll("//[^\n]*", "");
        Set<String> listed = Set.of("Arrays.fill", "System.arraycopy", "Math.min", "Math.max", "Math.abs");
        Matcher m = Pattern.compile("\\b[A-Z][A-Za-z]*\\.\\w+(?=\\()").matcher(code);
        while (m.find()) {
            holds(m.group() + " is of the library's list", listed.contains(m.group()));
        }
        holds("texts are not joined by +", !Pattern.compile("\"\\s*\\+|\\+\\s*\"").matcher(code).find());
        holds("no class without a name", !Pattern.compile("new \\w+\\([^;{]*\\)\\s*\\{").matcher(code).find());
    }

    private static void shortMethods(List<String> lines) {
        int from = -1;
        for (int i = 0; i < lines.size(); i++) {
            String line = lines.get(i);
            if (line.matches(" {4,8}(public|private) .*\\) \\{")) {
                from = i;
            } else if (from >= 0 && line.matches(" {4}( {4})?\\}")) {
                holds("at most sixty lines: " + lines.get(from).trim(), i - from < 60);
                from = -1;
            }
        }
    }

    public static void main(String[] args) throws IOException {
        face();
        classesInside();
        words(Files.readString(SOURCE));
        library(Files.readString(SOURCE));
        shortMethods(Files.readAllLines(SOURCE));
        System.out.println(wrong == 0 ? "the face is as due" : wrong + " things are not as due");
        if (wrong != 0) {
            System.exit(1);
        }
    }
}
