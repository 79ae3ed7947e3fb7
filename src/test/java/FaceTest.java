import java.lang.reflect.Constructor;
import java.lang.reflect.Field;
import java.lang.reflect.Method;
import java.lang.reflect.Modifier;
import java.nio.file.Files;
import java.nio.file.Path;
import java.util.Arrays;
import java.util.Set;
import java.util.TreeSet;
import java.util.regex.Matcher;
import java.util.regex.Pattern;

/** The public face, exactly, and those rules of LANGUAGE.md that can be seen from outside or from the text. */
public final class FaceTest {
    private static int wrong = 0;

    private static final String[] METHODS = {
        "int road(int,int,boolean)", "int home(int,boolean)", "int one(int,int,int)", "int leave(int)",
        "int crown(int)", "int say(int)", "int wipe()", "int fault()", "int judge(int)", "int done()",
        "int behind(int,int)", "int then(int)", "int far(int,int)", "int rounds(int,int)", "int heads(int,int)",
        "int flees(int,int)", "int shade(int,int)", "int met(int,int)", "int unmeet()", "int maybe(int)",
        "int touches(int,int)", "long chance(int,int,int,int)", "int seen(int,int,boolean)", "int forget()",
        "int lairs()", "int ask(int)", "int year(int,int,int)", "int image(int)", "int restore(int)",
        "int told(int)",
    };

    private static void due(String what, Object got, Object want) {
        if (!got.equals(want)) {
            wrong++;
            System.out.println(what + ": " + got + ", due is " + want);
        }
    }

    private static String faceOf(Method m) {
        StringBuilder text = new StringBuilder(m.getReturnType().getName());
        text.append(' ').append(m.getName()).append('(');
        Class<?>[] types = m.getParameterTypes();
        for (int i = 0; i < types.length; i++) text.append(i == 0 ? "" : ",").append(types[i].getName());
        return text.append(')').toString();
    }

    private static void methods() {
        Set<String> open = new TreeSet<>();
        Set<String> names = new TreeSet<>();
        for (Method m : TouchReign.class.getDeclaredMethods()) {
            if (Modifier.isPrivate(m.getModifiers())) continue;
            due("is public: " + m.getName(), Modifier.isPublic(m.getModifiers()), true);
            due("is static: " + m.getName(), Modifier.isStatic(m.getModifiers()), false);
            open.add(faceOf(m));
            names.add(m.getName());
        }
        due("methods", open, new TreeSet<>(Arrays.asList(METHODS)));
        for (Method m : TouchReign.class.getDeclaredMethods()) {
            if (Modifier.isPrivate(m.getModifiers())) due("bears a public name: " + m, names.contains(m.getName()), false);
        }
        for (Class<?> inside : TouchReign.class.getDeclaredClasses()) {
            due("is static: " + inside, Modifier.isStatic(inside.getModifiers()), true);
            for (Method m : inside.getDeclaredMethods()) {
                if (Modifier.isPrivate(m.getModifiers())) {
                    due("bears a public name: " + m, names.contains(m.getName()), false);
                }
                due("parameters of " + m, m.getParameterCount() <= 7, true);
            }
        }
    }

    private static void fields() throws IllegalAccessException {
        Set<String> open = new TreeSet<>();
        for (Field f : TouchReign.class.getDeclaredFields()) {
            if (!Modifier.isPrivate(f.getModifiers())) open.add(Modifier.toString(f.getModifiers()) + " "
                + f.getType().getName() + " " + f.getName() + " = " + f.get(null));
        }
        due("constants", open, new TreeSet<>(Arrays.asList(
            "public static final int NONE = -6", "public static final int UNKNOWN = -1",
            "public static final int OUTSIDE = -2", "public static final int STATE = -3",
            "public static final int FULL = -4", "public static final int NO = -5",
            "public static final long LOST = -1000000000000000000")));
    }

    private static void constructors() {
        Constructor<?>[] all = TouchReign.class.getDeclaredConstructors();
        due("constructors", all.length, 1);
        due("its parameters", all[0].getParameterCount(), 0);
        due("it is public", Modifier.isPublic(all[0].getModifiers()), true);
        due("the class", Modifier.toString(TouchReign.class.getModifiers()), "public final");
    }

    private static void text() throws java.io.IOException {
        String text = Files.readString(Path.of("src/main/java/TouchReign.java"));
        String code = text.replaceAll("(?s)/\\*.*?\\*/", "").replaceAll("//[^\n]*", "");
        // what rules 2, 4, 5, 6 and 13 forbid; an answer made of what the machine throws is forbidden too
        Matcher m = Pattern.compile("\\b(package|finally|synchronized|assert|native|import (?!java\\.util\\.)|"
            + "System\\.(?!arraycopy)|Thread|Random|\\w+Exact|Throwable|Exception|NullPointerException|"
            + "ClassCastException|ArrayIndexOutOfBoundsException|NegativeArraySizeException|ArrayStoreException)\\b"
            + "|->|::|\\bstatic\\s*\\{").matcher(code);
        while (m.find()) due("in the text: " + m.group(), true, false);
        due("signs 1 to 127 alone", text.chars().allMatch(c -> c >= 1 && c <= 127), true);
    }

    public static void main(String[] args) throws Exception {
        methods();
        fields();
        constructors();
        text();
        System.out.println(wrong == 0 ? "the face is as due" : wrong + " parts of the face are not as due");
        if (wrong != 0) System.exit(1);
    }
}
