import java.io.IOException;
import java.lang.reflect.Constructor;
import java.lang.reflect.Field;
import java.lang.reflect.Method;
import java.lang.reflect.Modifier;
import java.nio.file.Files;
import java.nio.file.Path;
import java.util.Set;
import java.util.TreeSet;
import java.util.regex.Pattern;

/** The class's face is the document's, and its file keeps to what LANGUAGE.md leaves of Java. */
public final class FaceTest {
    private static final Due DUE = new Due("FaceTest");
    private static final Path SOURCE = Path.of("src/main/java/LeafOrder.java");

    public static void main(String[] args) throws IOException {
        members();
        privateNames();
        fields();
        sizes();
        source();
        DUE.end();
    }

    private static void members() {
        Set<String> want = new TreeSet<>(Set.of(
                "int leaf(int,int,int,int)",
                "boolean catchword(int,int,int)",
                "boolean cut(int,int,int,int)",
                "boolean stain(int,int,int)",
                "boolean weights(int,int,int,int,int,int)",
                "void turnable(boolean)",
                "boolean must(int,int,boolean,boolean)",
                "int join(int,boolean,int,boolean)",
                "int best()",
                "int at(int,int)",
                "int next()",
                "int sure(int,int,int)",
                "int two()",
                "int book(int)",
                "int doubt(int,int)",
                "int about(int)"));
        Set<String> got = new TreeSet<>();
        for (Method m : LeafOrder.class.getDeclaredMethods()) {
            if (!Modifier.isPrivate(m.getModifiers())) {
                got.add(signature(m));
                DUE.yes(m + " is public and of the object",
                        (m.getModifiers() & ~Modifier.FINAL) == Modifier.PUBLIC);
            }
        }
        DUE.yes("the methods are " + got, got.equals(want));
        Constructor<?>[] constructors = LeafOrder.class.getDeclaredConstructors();
        DUE.is("constructors", constructors.length, 1);
        DUE.yes("a public one", Modifier.isPublic(constructors[0].getModifiers()));
        DUE.is("its parameters", constructors[0].getParameterCount(), 0);
        DUE.is("the class is public and final", LeafOrder.class.getModifiers(),
                Modifier.PUBLIC | Modifier.FINAL);
        DUE.is("NONE", LeafOrder.NONE, -1);
    }

    private static String signature(Method m) {
        StringBuilder text = new StringBuilder();
        for (Class<?> type : m.getParameterTypes()) {
            text.append(text.length() == 0 ? "" : ",").append(type.getName());
        }
        return m.getReturnType().getName() + " " + m.getName() + "(" + text + ")";
    }

    private static void privateNames() {
        Set<String> names = new TreeSet<>();
        for (Method m : LeafOrder.class.getMethods()) {
            if (m.getDeclaringClass() == LeafOrder.class) {
                names.add(m.getName());
            }
        }
        for (Class<?> inside : LeafOrder.class.getDeclaredClasses()) {
            DUE.yes(inside + " is static", Modifier.isStatic(inside.getModifiers()));
            DUE.no(inside + " is public", Modifier.isPublic(inside.getModifiers()));
            for (Method m : inside.getDeclaredMethods()) {
                DUE.no(m + " bears a public method's name", names.contains(m.getName()));
            }
        }
        for (Method m : LeafOrder.class.getDeclaredMethods()) {
            if (Modifier.isPrivate(m.getModifiers())) {
                DUE.no(m + " bears a public method's name", names.contains(m.getName()));
            }
        }
    }

    private static void fields() {
        int own = 0;
        for (Field f : LeafOrder.class.getDeclaredFields()) {
            boolean none = f.getName().equals("NONE");
            DUE.yes(f + " is private, but NONE", none != Modifier.isPrivate(f.getModifiers()));
            if (Modifier.isStatic(f.getModifiers())) {
                DUE.yes(f + " is final", Modifier.isFinal(f.getModifiers()));
            } else {
                own++;
            }
        }
        DUE.yes("at most twenty fields", own <= 20);
    }

    private static void sizes() {
        Class<?>[] insides = LeafOrder.class.getDeclaredClasses();
        DUE.yes("at most twelve classes", insides.length < 12);
        parameters(LeafOrder.class);
        for (Class<?> inside : insides) {
            parameters(inside);
            DUE.is(inside + " has no classes of its own", inside.getDeclaredClasses().length, 0);
            DUE.yes(inside + " has at most twenty fields", inside.getDeclaredFields().length <= 20);
            for (Field f : inside.getDeclaredFields()) {
                DUE.no(f + " is static", Modifier.isStatic(f.getModifiers()));
            }
        }
    }

    private static void parameters(Class<?> type) {
        for (Method m : type.getDeclaredMethods()) {
            DUE.yes(m + " takes at most seven", m.getParameterCount() <= 7);
        }
    }

    private static void source() throws IOException {
        String text = Files.readString(SOURCE).replaceAll("(?s)/\\*.*?\\*/", "")
                .replaceAll("//[^\n]*", "");
        String[] barred = {"package", "import", "throw", "throws", "try", "catch", "synchronized",
            "assert", "native", "volatile", "Thread", "Random", "Object", "hashCode", "\\w+Exact",
            "->", "::"};
        for (String word : barred) {
            String bounds = Character.isLetter(word.charAt(0)) || word.startsWith("\\w")
                    ? "\\b" + word + "\\b" : Pattern.quote(word);
            DUE.no("the file holds " + word, Pattern.compile(bounds).matcher(text).find());
        }
        for (int i = 0; i < text.length(); i++) {
            if (text.charAt(i) > 255) {
                DUE.yes("a character above 255", false);
            }
        }
    }
}
