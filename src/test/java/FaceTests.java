import java.io.IOException;
import java.lang.reflect.Constructor;
import java.lang.reflect.Field;
import java.lang.reflect.Method;
import java.lang.reflect.Modifier;
import java.nio.charset.StandardCharsets;
import java.nio.file.Files;
import java.nio.file.Path;
import java.util.ArrayList;
import java.util.Collections;
import java.util.HashSet;
import java.util.List;
import java.util.Set;
import java.util.regex.Matcher;
import java.util.regex.Pattern;

/** The face is the document's and nothing else, and the file keeps to what of LANGUAGE.md can be seen. */
public final class FaceTests {
    private static final String[] FACE = {
        "int league(int)", "int one(int,int)", "int comes(int)", "int beat(int,int)", "int law(int)", "int lawful()",
        "int masters(int,int)", "int orphans(int)", "int holding()", "int free()", "int rings()", "int cup()",
        "int right()", "int cheapest()", "int fresh(int,int,int)", "int leavers()", "long odds(int)",
        "int ways(int,int)", "int round(int,int,int)", "int byRounds(int,int)", "int played(int)",
        "int seeded(int,int)", "int judge(int)", "int image()", "int restore()", "int count(int)",
        "int keep(int,int,int,int)", "int row(int,int,int)", "int put(int,int,int)",
        "long element(int,int) throws IllegalArgumentException IllegalStateException",
        "int copy(int,int,int,int,int)", "int price(int)", "int toss(int)"
    };

    public static void main(String[] args) throws IOException {
        face();
        fieldsAndClasses();
        source();
        Due.end("FaceTests");
    }

    private static String told(Method m) {
        StringBuilder all = new StringBuilder();
        all.append(m.getReturnType().getSimpleName()).append(' ').append(m.getName()).append('(');
        String comma = "";
        for (Class<?> c : m.getParameterTypes()) {
            all.append(comma).append(c.getSimpleName());
            comma = ",";
        }
        all.append(')');
        String ahead = " throws ";
        for (Class<?> c : m.getExceptionTypes()) {
            all.append(ahead).append(c.getSimpleName());
            ahead = " ";
        }
        return all.toString();
    }

    private static void face() {
        Due.holds("the class is public", Modifier.isPublic(OneBeatsBoth.class.getModifiers()));
        Due.holds("the class is final", Modifier.isFinal(OneBeatsBoth.class.getModifiers()));
        Due.holds("it is under nothing", OneBeatsBoth.class.getSuperclass() == Object.class);
        Due.is("interfaces", OneBeatsBoth.class.getInterfaces().length, 0);
        Constructor<?>[] made = OneBeatsBoth.class.getDeclaredConstructors();
        Due.is("constructors", made.length, 1);
        Due.holds("it is public", Modifier.isPublic(made[0].getModifiers()));
        Due.is("what it takes", made[0].getParameterCount(), 0);
        List<String> seen = new ArrayList<>();
        Set<String> names = new HashSet<>();
        for (Method m : OneBeatsBoth.class.getDeclaredMethods()) {
            if (Modifier.isPublic(m.getModifiers())) {
                seen.add(told(m));
                names.add(m.getName());
                Due.holds(m + " is no static one", !Modifier.isStatic(m.getModifiers()));
            }
        }
        for (Method m : OneBeatsBoth.class.getDeclaredMethods()) {
            if (!Modifier.isPublic(m.getModifiers())) {
                Due.holds(m + " is private", Modifier.isPrivate(m.getModifiers()));
                Due.holds(m + " has a name of its own", !names.contains(m.getName()));
                Due.holds(m + " has seven parameters at most", m.getParameterCount() <= 7);
            }
        }
        List<String> due = new ArrayList<>(List.of(FACE));
        Collections.sort(seen);
        Collections.sort(due);
        Due.same("the face", seen.toString(), due.toString());
    }

    private static void fieldsAndClasses() {
        Class<?>[] inside = OneBeatsBoth.class.getDeclaredClasses();
        Due.holds("classes", inside.length < 12);
        checkFields(OneBeatsBoth.class);
        for (Field f : OneBeatsBoth.class.getDeclaredFields()) {
            Due.holds(f + " is private", Modifier.isPrivate(f.getModifiers()));
        }
        for (Class<?> c : inside) {
            Due.holds(c + " is static", Modifier.isStatic(c.getModifiers()));
            Due.holds(c + " is not public", !Modifier.isPublic(c.getModifiers()) && !Modifier.isProtected(c.getModifiers()));
            checkFields(c);
        }
    }

    private static void checkFields(Class<?> c) {
        int own = 0;
        for (Field f : c.getDeclaredFields()) {
            if (Modifier.isStatic(f.getModifiers())) {
                Due.holds(f + " is final", Modifier.isFinal(f.getModifiers()));
            } else {
                own++;
            }
        }
        Due.holds("fields of " + c, own <= 20);
    }

    private static void source() throws IOException {
        byte[] bytes = Files.readAllBytes(Path.of("src/main/java/OneBeatsBoth.java"));
        for (byte b : bytes) {
            if (b < 0) {
                Due.holds("a sign above 127", false);
                break;
            }
        }
        String all = new String(bytes, StandardCharsets.ISO_8859_1);
        String code = all.replaceAll("(?s)/\\*.*?\\*/", "").replaceAll("//[^\n]*", "").replaceAll("\"[^\"\n]*\"", "\"\"");
        String[] out = {
            "->", "::", "@", "\\bpackage\\b", "\\bimport\\b", "\\bfinally\\b", "\\bassert\\b", "\\bsynchronized\\b",
            "\\bvar\\b", "Exact\\b", "\\bObject\\b", "\\bThrowable\\b", "\\bError\\b", "\\bcatch \\((Runtime)?Exception\\b",
            "NullPointerException", "IndexOutOfBoundsException", "ArithmeticException", "ClassCastException",
            "NegativeArraySizeException", "ArrayStoreException", "getMessage", "hashCode", "\\bequals\\b", "toString",
            "\\bnanoTime\\b", "\\bcurrentTimeMillis\\b", "\\bThread\\b", "\\bRandom\\b", "System\\.(?!arraycopy)"
        };
        for (String o : out) {
            Due.holds("nothing like " + o, !Pattern.compile(o).matcher(code).find());
        }
        Matcher lone = Pattern.compile("(?m)^    (?:public|private)[^;{=]*\\([^;{]*\\{\n((?:(?!    \\}\n).*\n)*)    \\}\n").matcher(code);
        while (lone.find()) {
            Due.holds("a method of sixty lines at most", lone.group(1).split("\n").length <= 60);
        }
    }
}
