import java.io.IOException;
import java.lang.reflect.Constructor;
import java.lang.reflect.Field;
import java.lang.reflect.Method;
import java.lang.reflect.Modifier;
import java.nio.file.Files;
import java.nio.file.Path;
import java.util.ArrayList;
import java.util.List;
import java.util.Set;
import java.util.TreeSet;
import java.util.regex.Matcher;
import java.util.regex.Pattern;

/** The public face as the document writes it, and those rules of the language that a text or a mirror can tell. */
public final class FaceTest {
    private static final Path DOCUMENT = Path.of("../shared/DOC.md");
    private static final Path SOURCE = Path.of("src/main/java/WallPatience.java");
    private static final String[] BANNED = {"throw", "throws", "try", "catch", "finally", "synchronized", "assert",
        "import java.io", "import java.nio", "->", "::", "Exact", "System.out", "System.err", "System.nanoTime",
        "System.currentTimeMillis", "Random", "Thread", "while (true)", "for (;;)", "hashCode", "toString"};
    private static final Due due = new Due();

    public static void main(String[] args) throws IOException {
        constants();
        members();
        nestedClasses();
        bannedWords();
        due.end();
    }

    private static void constants() {
        due.is("BAD", WallPatience.BAD, -1);
        due.is("NOT", WallPatience.NOT, -2);
        due.is("FULL", WallPatience.FULL, -3);
        due.is("NONE", WallPatience.NONE, -4);
        due.is("NULL", WallPatience.NULL, -11);
        due.is("CAST", WallPatience.CAST, -12);
        due.is("INDEX", WallPatience.INDEX, -13);
        due.is("SIZE", WallPatience.SIZE, -14);
    }

    /** The methods of the document's face, as: int feed(int). */
    private static Set<String> facePromised() throws IOException {
        Set<String> face = new TreeSet<>();
        Matcher m = Pattern.compile("public (int|long) (\\w+)\\(([^)]*)\\);").matcher(Files.readString(DOCUMENT));
        while (m.find()) {
            String types = m.group(3).replaceAll("(int|long) \\w+", "$1").replace(" ", "");
            face.add(m.group(1) + " " + m.group(2) + "(" + types + ")");
        }
        return face;
    }

    private static void members() throws IOException {
        Class<?> c = WallPatience.class;
        due.isTrue("public and final", Modifier.isPublic(c.getModifiers()) && Modifier.isFinal(c.getModifiers()));
        Set<String> face = new TreeSet<>();
        Set<String> publicNames = new TreeSet<>();
        for (Method m : c.getDeclaredMethods()) {
            if (Modifier.isPublic(m.getModifiers())) {
                List<String> types = new ArrayList<>();
                for (Class<?> type : m.getParameterTypes()) {
                    types.add(type.getName());
                }
                face.add(m.getReturnType().getName() + " " + m.getName() + "(" + String.join(",", types) + ")");
                publicNames.add(m.getName());
                due.isTrue(m + " is of the object", !Modifier.isStatic(m.getModifiers()));
            }
        }
        Set<String> promised = facePromised();
        due.is("methods promised", promised.size(), 36 - 1);
        due.isTrue("the face is " + promised + " but there is " + face, face.equals(promised));
        for (Method m : c.getDeclaredMethods()) {
            boolean open = Modifier.isPublic(m.getModifiers());
            due.isTrue(m + " is public or private", open || Modifier.isPrivate(m.getModifiers()));
            due.isTrue(m + " has a name of its own", open || !publicNames.contains(m.getName()));
            due.isTrue(m + " takes at most seven", m.getParameterCount() <= 7);
        }
        int open = 0;
        for (Field f : c.getDeclaredFields()) {
            boolean isPublic = Modifier.isPublic(f.getModifiers());
            open += isPublic ? 1 : 0;
            due.isTrue(f + " is public or private", isPublic || Modifier.isPrivate(f.getModifiers()));
            boolean isStatic = Modifier.isStatic(f.getModifiers());
            due.isTrue(f + " is final if static", !isStatic || Modifier.isFinal(f.getModifiers()));
        }
        due.is("public constants", open, 8);
        Constructor<?>[] made = c.getDeclaredConstructors();
        due.is("constructors", made.length, 1);
        due.is("what it takes", made[0].getParameterCount(), 0);
    }

    private static void nestedClasses() {
        Class<?>[] nested = WallPatience.class.getDeclaredClasses();
        due.isTrue("at most twelve classes", nested.length + 1 <= 12);
        for (Class<?> c : nested) {
            int is = c.getModifiers();
            due.isTrue(c + " is static", Modifier.isStatic(is));
            due.isTrue(c + " is not public", !Modifier.isPublic(is) && !Modifier.isProtected(is));
            int fields = 0;
            for (Field f : c.getDeclaredFields()) {
                fields += Modifier.isStatic(f.getModifiers()) ? 0 : 1;
            }
            due.isTrue(c + " has at most twenty fields", fields <= 20);
            for (Method m : c.getDeclaredMethods()) {
                due.isTrue(m + " takes at most seven", m.getParameterCount() <= 7);
                due.isTrue(m + " has a name of its own", !isPromised(m.getName()));
            }
        }
    }

    private static boolean isPromised(String name) {
        for (Method m : WallPatience.class.getDeclaredMethods()) {
            if (Modifier.isPublic(m.getModifiers()) && m.getName().equals(name)) {
                return true;
            }
        }
        return false;
    }

    private static void bannedWords() throws IOException {
        String code = Files.readString(SOURCE)
            .replaceAll("(?s)/\\*.*?\\*/", " ").replaceAll("//[^\\n]*", " ");
        for (String word : BANNED) {
            boolean isName = Character.isLetter(word.charAt(0)) && Character.isLetter(word.charAt(word.length() - 1));
            String pattern = isName && !word.equals("Exact") ? "\\b" + Pattern.quote(word) + "\\b" : Pattern.quote(word);
            due.isTrue("no " + word, !Pattern.compile(pattern).matcher(code).find());
        }
        due.isTrue("no package line", !Pattern.compile("(?m)^package ").matcher(code).find());
    }
}
