import java.io.IOException;
import java.lang.reflect.Array;
import java.lang.reflect.Constructor;
import java.lang.reflect.Field;
import java.lang.reflect.Method;
import java.lang.reflect.Modifier;
import java.nio.file.Files;
import java.nio.file.Path;
import java.util.HashSet;
import java.util.Set;
import java.util.TreeSet;
import java.util.regex.Matcher;
import java.util.regex.Pattern;

/** The public face of the document, the rules of LANGUAGE.md that can be looked up, and the room. */
public final class FaceTest {
    private static final String[] FACE = {
        "boolean end(int)", "boolean wait(int)", "int build(int,int,int,int,int,int)", "int clash(int,int)",
        "int clashes()", "int count(int)", "int feed(int,int,int,int,int)", "int hear(int)", "int letter(int,int)",
        "int message(int,int)", "int octet(int)", "int part(int,int)", "int parted(int,int)", "int size(int)",
        "int text(int,int)", "int texts()", "int when()", "long cost()", "long meet(int,int)",
    };

    private static final String[] FORBIDDEN = {
        "->", "::", "\\btry\\b", "\\bcatch\\b", "\\bfinally\\b", "\\bassert\\b", "\\bsynchronized\\b", "\\bdouble\\b",
        "\\bfloat\\b", "\\bSystem\\b", "\\bpublic\\s+static\\s+(?!final)", "\\bprotected\\b", "Exact\\s*\\(",
        "_VALUE\\b", "\\bpackage\\b", "\\binstanceof\\b", "[^\\x00-\\x7f]", "\"\\s*\\+", "\\+\\s*\"", "while\\s*\\(true\\)",
        "for\\s*\\(\\s*;", "\\bObject\\b", "\\bMap\\b", "@",
    };

    public static void main(String[] args) throws IOException, IllegalAccessException {
        face();
        nested();
        source();
        room();
        Due.finish();
    }

    private static void face() {
        Due.isTrue("public and final", Modifier.toString(ShipVoices.class.getModifiers()).equals("public final"));
        Set<String> open = new TreeSet<>();
        Set<String> openNames = new HashSet<>();
        for (Method m : ShipVoices.class.getDeclaredMethods()) {
            if (!Modifier.isPrivate(m.getModifiers())) {
                open.add(m.getReturnType() + " " + m.getName() + parameters(m));
                openNames.add(m.getName());
                Due.isTrue(m + " is public", m.toString().startsWith("public " + m.getReturnType() + " "));
            }
        }
        Due.same("the face", open.toString(), new TreeSet<>(Set.of(FACE)).toString());
        for (Class<?> inside : ShipVoices.class.getDeclaredClasses()) {
            for (Method m : inside.getDeclaredMethods()) {
                Due.isFalse(m + " bears a public name", openNames.contains(m.getName()));
            }
        }
        for (Method m : ShipVoices.class.getDeclaredMethods()) {
            boolean hidden = Modifier.isPrivate(m.getModifiers());
            Due.isFalse(m + " bears a public name", hidden && openNames.contains(m.getName()));
        }
        for (Field f : ShipVoices.class.getDeclaredFields()) {
            String how = Modifier.toString(f.getModifiers());
            Due.isTrue(f.toString(), how.startsWith("private") || how.equals("public static final") && f.getName().equals("NONE"));
        }
        Constructor<?>[] all = ShipVoices.class.getDeclaredConstructors();
        Due.is("constructors", all.length, 1);
        Due.is("its parameters", all[0].getParameterCount(), 0);
        Due.isTrue("it is public", Modifier.isPublic(all[0].getModifiers()));
    }

    private static String parameters(Method m) {
        StringBuilder s = new StringBuilder("(");
        for (Class<?> c : m.getParameterTypes()) {
            s.append(s.length() > 1 ? "," : "").append(c);
        }
        return s.append(")").toString();
    }

    private static void nested() {
        Class<?>[] inside = ShipVoices.class.getDeclaredClasses();
        Due.isTrue("at most twelve classes", inside.length + 1 <= 12);
        for (Class<?> c : inside) {
            Due.isTrue(c + " is static", Modifier.isStatic(c.getModifiers()));
            int fields = 0;
            for (Field f : c.getDeclaredFields()) {
                boolean still = Modifier.isStatic(f.getModifiers());
                Due.isTrue(f + " static and not final", !still || Modifier.isFinal(f.getModifiers()));
                fields += still ? 0 : 1;
            }
            Due.isTrue(c + " has few fields", fields <= 20);
            for (Method m : c.getDeclaredMethods()) {
                Due.isTrue(m + " has few parameters", m.getParameterCount() <= 7);
            }
        }
    }

    private static void source() throws IOException {
        String text = Files.readString(Path.of("src/main/java/ShipVoices.java"));
        String code = text.replaceAll("(?s)/\\*.*?\\*/", "").replaceAll("//[^\n]*", "");
        for (String word : FORBIDDEN) {
            Matcher m = Pattern.compile(word).matcher(code);
            Due.isFalse("the source has " + word, m.find());
        }
        Matcher imports = Pattern.compile("import ([^;]*);").matcher(code);
        while (imports.find()) {
            Due.same("import", imports.group(1), "java.util.NoSuchElementException");
        }
        Matcher thrown = Pattern.compile("throw new (\\w+)\\(\"[^\"]*\"\\);").matcher(code);
        int throwing = 0;
        while (thrown.find()) {
            throwing++;
            Due.same("throw", thrown.group(1), "NoSuchElementException");
        }
        Due.is("throws", throwing, code.split("\\bthrow\\b", -1).length - 1);
    }

    /** One object stays small, whatever it has heard: rows are made once. */
    private static void room() throws IllegalAccessException {
        ShipVoices x = new ShipVoices();
        long[] fresh = {0, 0};
        weigh(x, fresh, new HashSet<>());
        Wire wire = new Wire(x);
        for (int k = 0; k < 220; k++) {
            wire.send(k & 1, Wire.position(k / 16, k, k, 1, 1));
            x.part(k / 16, 1000);
            x.wait(1);
        }
        long[] late = {0, 0};
        weigh(x, late, new HashSet<>());
        Due.is("objects", late[0], fresh[0]);
        Due.is("fields and elements", late[1], fresh[1]);
        Due.isTrue("few objects: " + late[0], late[0] < 50);
        Due.isTrue("few elements: " + late[1], late[1] < 5000);
    }

    private static void weigh(Object o, long[] sum, Set<Integer> seen) throws IllegalAccessException {
        if (o == null || !seen.add(System.identityHashCode(o))) {
            return;
        }
        sum[0]++;
        if (o.getClass().isArray()) {
            sum[1] += Array.getLength(o);
            return;
        }
        for (Field f : o.getClass().getDeclaredFields()) {
            if (!Modifier.isStatic(f.getModifiers())) {
                sum[1]++;
                f.setAccessible(true);
                if (!f.getType().isPrimitive()) {
                    weigh(f.get(o), sum, seen);
                }
            }
        }
    }
}
