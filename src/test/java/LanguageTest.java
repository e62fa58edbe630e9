import java.io.IOException;
import java.lang.reflect.Constructor;
import java.lang.reflect.Field;
import java.lang.reflect.Method;
import java.lang.reflect.Modifier;
import java.nio.file.Files;
import java.nio.file.Path;
import java.util.HashSet;
import java.util.Set;
import java.util.TreeSet;

/** The rules of LANGUAGE.md that can be seen from outside: the face, and words that may not stand in the file. */
public final class LanguageTest {
    private static final String[] FACE = {"crossing/2", "road/3", "rule/2", "cell/2", "between/2", "way/2", "fix/2",
        "drop/0", "candidate/3", "best/1", "decided/1", "piece/1", "step/1", "through/2", "total/1", "image/1",
        "restore/1", "told/1"};
    private static final String[] CONSTANTS = {"NONE", "UNKNOWN", "OUTSIDE", "STATE", "FULL", "NO"};
    private static final String[] FORBIDDEN = {"\\bthrow\\b", "\\bthrows\\b", "\\btry\\b", "\\bcatch\\b",
        "\\bsynchronized\\b", "\\bassert\\b", "->", "::", "\\bpackage\\b", "\\bimport\\b", "\\bprotected\\b",
        "Exact\\(", "\\bSystem\\.(?!arraycopy)", "\\bThread\\b", "\\bstatic\\s*\\{", "\\bString\\b", "while\\s*\\(true"};

    public static void main(String[] args) throws IOException {
        theFace();
        theClassesInside();
        theWords();
        Check.end();
    }

    private static void theFace() {
        Set<String> want = new TreeSet<>(Set.of(FACE));
        Set<String> got = new TreeSet<>();
        Set<String> hidden = new HashSet<>();
        for (Method m : RoadTrace.class.getDeclaredMethods()) {
            if (Modifier.isPrivate(m.getModifiers())) {
                hidden.add(m.getName());
                continue;
            }
            got.add(m.getName() + "/" + m.getParameterCount());
            Check.isTrue(m.getName() + " is public and answers int",
                Modifier.isPublic(m.getModifiers()) && !Modifier.isStatic(m.getModifiers()) && m.getReturnType() == int.class);
        }
        Check.isTrue("the face is " + got, got.equals(want));
        for (String name : FACE) {
            Check.isTrue("no private method " + name, !hidden.contains(name.substring(0, name.indexOf('/'))));
        }
        Set<String> constants = Set.of(CONSTANTS);
        for (Field f : RoadTrace.class.getDeclaredFields()) {
            boolean shown = Modifier.isPublic(f.getModifiers()) && Modifier.isStatic(f.getModifiers());
            Check.isTrue(f.getName() + " is shown just if it is the document's", shown == constants.contains(f.getName()));
            Check.isTrue(f.getName() + " is private, if it is not the document's",
                shown || Modifier.isPrivate(f.getModifiers()));
        }
        Constructor<?>[] constructors = RoadTrace.class.getDeclaredConstructors();
        Check.isTrue("one public constructor",
            constructors.length == 1 && Modifier.isPublic(constructors[0].getModifiers()));
        Check.isTrue("final", Modifier.isFinal(RoadTrace.class.getModifiers()));
    }

    private static void theClassesInside() {
        Class<?>[] inside = RoadTrace.class.getDeclaredClasses();
        Check.isTrue("some twelve classes", inside.length <= 11);
        for (Class<?> c : inside) {
            Check.isTrue(c + " is static and not public",
                Modifier.isStatic(c.getModifiers()) && !Modifier.isPublic(c.getModifiers()));
            int fields = 0;
            for (Field f : c.getDeclaredFields()) {
                fields += Modifier.isStatic(f.getModifiers()) ? 0 : 1;
                Check.isTrue(f + " is final, if static",
                    !Modifier.isStatic(f.getModifiers()) || Modifier.isFinal(f.getModifiers()));
            }
            Check.isTrue(c + " has some twenty fields", fields <= 20);
            for (Method m : c.getDeclaredMethods()) {
                Check.isTrue(m + " has at most seven parameters", m.getParameterCount() <= 7);
                for (String name : FACE) {
                    Check.isTrue(m + " has a name of its own", !name.startsWith(m.getName() + "/"));
                }
            }
        }
    }

    private static void theWords() throws IOException {
        String text = Files.readString(Path.of("src/main/java/RoadTrace.java"));
        Check.isTrue("signs 1 to 127 alone", text.chars().allMatch(c -> c >= 1 && c <= 127));
        String code = text.replaceAll("(?s)/\\*.*?\\*/", " ").replaceAll("//[^\n]*", " ");
        for (String word : FORBIDDEN) {
            Check.isTrue("no " + word, !java.util.regex.Pattern.compile(word).matcher(code).find());
        }
    }
}
