import java.io.IOException;
import java.lang.reflect.Constructor;
import java.lang.reflect.Field;
import java.lang.reflect.Method;
import java.lang.reflect.Modifier;
import java.nio.file.Files;
import java.nio.file.Path;
import java.util.ArrayList;
import java.util.Arrays;
import java.util.List;
import java.util.TreeSet;
import java.util.regex.Matcher;
import java.util.regex.Pattern;

/** The face of the class, and those rules of ../shared/LANGUAGE.md that can be read off the file. */
public final class FaceTest {
    private static final String SOURCE = "src/main/java/RingCutters.java";

    private static final String[] FACE = {
        "boolean end(int)", "boolean image(int)", "boolean restore(int)",
        "int cuts(int)", "int drawn(int,int)", "int drop(int)", "int fault()", "int feed(int,int,int,int,int)",
        "int fewest(int)", "int join(int,int)", "int lightest(int)", "int lines(int,int)", "int near()", "int net()",
        "int now(int)", "int pack(int)", "int packed()", "int part(int,int)", "int point(int,int)",
        "int shortest()", "int shrink()", "int shrinkAll()", "int sparing(int)", "int those(int)", "int undo()",
        "int upTo(int)", "int weigh(int,int)", "long bound(int)", "long rings()"
    };

    private static final String[] FORBIDDEN = {
        "->", "::", "Exact\\(", "\\bfinally\\b", "\\bsynchronized\\b", "\\bassert\\b", "\\bcatch\\b", "\\bvar\\b", "\\bstatic \\{",
        "\\bpackage\\b", "\\bSystem\\b", "\\bRandom\\b", "\\bThread\\b", "\\bObject\\b", "\\bdouble\\b", "\\bfloat\\b", "\\bwhile\\b",
        "\\bhashCode\\b", "\\btoString\\b", "\\bequals\\b", "numberOf(Trailing|Leading)Zeros", "\\bnative\\b", "\\btransient\\b", "\\bvolatile\\b"
    };

    private static int wrong;

    private static void check(boolean right, String what) {
        if (!right) {
            wrong++;
            System.out.println(what);
        }
    }

    private static String told(Method m) {
        StringBuilder b = new StringBuilder(m.getReturnType().getSimpleName()).append(' ').append(m.getName()).append('(');
        for (Class<?> c : m.getParameterTypes()) {
            b.append(b.charAt(b.length() - 1) == '(' ? "" : ",").append(c.getSimpleName());
        }
        return b.append(')').toString();
    }

    private static void face() throws NoSuchFieldException, IllegalAccessException {
        Class<?> c = RingCutters.class;
        check(Modifier.isPublic(c.getModifiers()) && Modifier.isFinal(c.getModifiers()), "the class is public and final");
        TreeSet<String> open = new TreeSet<>();
        TreeSet<String> names = new TreeSet<>();
        for (Method m : c.getDeclaredMethods()) {
            if (Modifier.isPublic(m.getModifiers())) {
                open.add(told(m));
                names.add(m.getName());
            }
        }
        check(open.equals(new TreeSet<>(Arrays.asList(FACE))), "the public methods are " + open);
        for (Method m : c.getDeclaredMethods()) {
            boolean isPublic = Modifier.isPublic(m.getModifiers());
            check(isPublic || m.isSynthetic() || Modifier.isPrivate(m.getModifiers()), m + " is open");
            check(isPublic || !names.contains(m.getName()), m + " bears a public name");
        }
        for (Field f : c.getDeclaredFields()) {
            boolean isNone = f.getName().equals("NONE");
            check(isNone ? Modifier.isPublic(f.getModifiers()) : Modifier.isPrivate(f.getModifiers()), f + " is open or not as due");
            check(!Modifier.isStatic(f.getModifiers()) || Modifier.isFinal(f.getModifiers()), f + " is static and not final");
        }
        check(c.getDeclaredField("NONE").getInt(null) == -1, "NONE is -1");
        Constructor<?>[] made = c.getDeclaredConstructors();
        check(made.length == 1 && Modifier.isPublic(made[0].getModifiers()) && made[0].getParameterCount() == 0, "the constructor");
        insides(c, names);
    }

    private static void insides(Class<?> c, TreeSet<String> names) {
        Class<?>[] inside = c.getDeclaredClasses();
        check(inside.length <= 12, "there are " + inside.length + " classes inside");
        for (Class<?> k : inside) {
            check(Modifier.isStatic(k.getModifiers()) && !Modifier.isPublic(k.getModifiers()) && !Modifier.isProtected(k.getModifiers()), k + " is open or not static");
            for (Method m : k.getDeclaredMethods()) {
                check(!names.contains(m.getName()), m + " bears a public name");
                check(m.getParameterCount() <= 7, m + " takes too much");
            }
            int kept = 0;
            for (Field f : k.getDeclaredFields()) {
                boolean isStatic = Modifier.isStatic(f.getModifiers());
                check(!isStatic || Modifier.isFinal(f.getModifiers()), f + " is static and not final");
                kept += isStatic ? 0 : 1;
            }
            check(kept <= 20, k + " has " + kept + " fields");
        }
    }

    private static void source() throws IOException {
        List<String> rows = Files.readAllLines(Path.of(SOURCE));
        List<String> imports = new ArrayList<>();
        int method = 0;
        for (int i = 0; i < rows.size(); i++) {
            String row = rows.get(i);
            String at = SOURCE + ":" + (i + 1) + ": ";
            for (int k = 0; k < row.length(); k++) {
                check(row.charAt(k) < 128, at + "a sign above 127");
            }
            if (row.startsWith("import")) {
                imports.add(row);
            }
            String code = row.replaceAll("//.*|/\\*\\*.*", "");
            for (String f : FORBIDDEN) {
                Matcher m = Pattern.compile(f).matcher(code);
                check(!m.find(), at + "has " + f);
            }
            // A method begins with its brace at the first or second depth, and ends with one as deep.
            if (code.matches("(    |        )[a-z].*\\) (throws NoSuchElementException )?\\{")) {
                method = i;
            }
            if (code.matches("(    |        )\\}")) {
                check(i - method <= 60, at + "ends a method of more than sixty lines");
            }
            if (code.contains("class ")) {
                method = i + 10_000;
            }
        }
        check(imports.equals(List.of("import java.util.NoSuchElementException;")), "the imports are " + imports);
    }

    public static void main(String[] args) throws Exception {
        face();
        source();
        System.out.println(wrong == 0 ? "the face is as due" : wrong + " things are not as due");
        System.exit(wrong == 0 ? 0 : 1);
    }
}
