import java.io.IOException;
import java.lang.reflect.Constructor;
import java.lang.reflect.Field;
import java.lang.reflect.Method;
import java.lang.reflect.Modifier;
import java.nio.file.Files;
import java.nio.file.Path;
import java.util.ArrayList;
import java.util.List;
import java.util.Set;
import java.util.TreeSet;
import java.util.regex.Matcher;
import java.util.regex.Pattern;

/** The class has the document's face, and what a machine can see of the rules of LANGUAGE.md holds. */
public final class RulesTest {
    private static final String FACE = """
        int append(int) IllegalArgumentException IllegalStateException
        boolean agree(int,int) IndexOutOfBoundsException IllegalArgumentException NoSuchElementException
        int bad(int,int) IndexOutOfBoundsException NoSuchElementException
        int combine(int,int) IndexOutOfBoundsException IllegalArgumentException NoSuchElementException IllegalStateException
        int commitment(int,int) IndexOutOfBoundsException NoSuchElementException
        int draw()
        int enroll(int,int,int) IndexOutOfBoundsException IllegalArgumentException NoSuchElementException UnsupportedOperationException
        int errorPosition()
        int event(int) NoSuchElementException
        int expel(int,int) IndexOutOfBoundsException NoSuchElementException
        boolean fulfils(int,int) IndexOutOfBoundsException IllegalArgumentException NoSuchElementException
        int groups(int) IndexOutOfBoundsException NoSuchElementException
        int healthBits(int) IndexOutOfBoundsException NoSuchElementException ArithmeticException
        int importShare(int) IndexOutOfBoundsException NoSuchElementException IllegalArgumentException
        int levels()
        int member(int,int) IndexOutOfBoundsException IllegalArgumentException
        int open(int,int) IndexOutOfBoundsException IllegalArgumentException NoSuchElementException UnsupportedOperationException
        int policy(int,int) IndexOutOfBoundsException IllegalArgumentException NoSuchElementException
        int policyText(int,int) IndexOutOfBoundsException NoSuchElementException
        long powerBits(int,int) IndexOutOfBoundsException NoSuchElementException
        int put(int,int,int) IndexOutOfBoundsException IllegalArgumentException IllegalStateException
        int refresh(int) IndexOutOfBoundsException NoSuchElementException
        int remove(int) IndexOutOfBoundsException NoSuchElementException
        int report(int,int) NoSuchElementException IllegalArgumentException
        int reshare(int,int,int) IndexOutOfBoundsException IllegalArgumentException NoSuchElementException UnsupportedOperationException IllegalStateException
        int restore() IllegalStateException
        int save()
        int secret(int,int) IndexOutOfBoundsException IllegalArgumentException NoSuchElementException
        int seed(int)
        boolean setPolicy(int) IndexOutOfBoundsException NoSuchElementException IllegalArgumentException
        boolean setPresent(int,boolean) IndexOutOfBoundsException
        int setShare(int,int,int) IndexOutOfBoundsException IllegalArgumentException NoSuchElementException
        int setWeight(int,int) IndexOutOfBoundsException IllegalArgumentException
        int share(int,int,int) IndexOutOfBoundsException IllegalArgumentException NoSuchElementException
        int shareText(int,int,int) IndexOutOfBoundsException NoSuchElementException
        int smallest(int,int) IndexOutOfBoundsException NoSuchElementException
        """;

    private static final String[] FORBIDDEN = {
        "->", "::", "\\btry\\b", "\\bcatch\\b", "\\bfinally\\b", "\\bsynchronized\\b", "\\bassert\\b", "Exact\\(",
        "\\bObject\\b", "\\bhashCode\\b", "\\bSystem\\.(?!arraycopy)", "\\bDouble\\b", "\\bFloat\\b", "\\bThread\\b",
        "\\brecord\\b", "\\bimport (?!java\\.util\\.NoSuchElementException;)", "^package", "\\bstatic \\{",
        "[^\\x00-\\x7f]", "\"[^\"]*\" *\\+", "\\+ *\"", "\\bprotected\\b",
    };

    private static final Set<String> NAMES = new TreeSet<>();
    private static int wrong = 0;

    public static void main(String[] args) throws IOException {
        checkFace();
        List<Class<?>> classes = new ArrayList<>(List.of(SecretVault.class));
        classes.addAll(List.of(SecretVault.class.getDeclaredClasses()));
        due("at most twelve classes", classes.size() <= 12);
        for (Class<?> c : classes) {
            checkClass(c);
        }
        checkText(Files.readAllLines(Path.of("src/main/java/SecretVault.java")));
        System.out.println(wrong == 0 ? "the rules are kept" : wrong + " rules are broken");
        if (wrong != 0) {
            System.exit(1);
        }
    }

    private static void due(String what, boolean holds) {
        if (!holds) {
            wrong++;
            System.out.println("not so: " + what);
        }
    }

    private static void checkFace() {
        Class<?> c = SecretVault.class;
        due("public final class", Modifier.isPublic(c.getModifiers()) && Modifier.isFinal(c.getModifiers()));
        due("no superclass, no interface", c.getSuperclass() == Object.class && c.getInterfaces().length == 0);
        due("no type parameters", c.getTypeParameters().length == 0);
        Constructor<?>[] made = c.getDeclaredConstructors();
        due("one constructor", made.length == 1 && Modifier.isPublic(made[0].getModifiers())
            && made[0].getParameterCount() == 0 && made[0].getExceptionTypes().length == 0);
        Set<String> face = new TreeSet<>();
        for (Method m : c.getDeclaredMethods()) {
            if (!Modifier.isPrivate(m.getModifiers())) {
                due(m + " is public and of objects", m.getModifiers() == Modifier.PUBLIC);
                face.add(signature(m));
                NAMES.add(m.getName());
            }
        }
        due("the face of the document", face.equals(new TreeSet<>(FACE.lines().map(String::strip).toList())));
        for (Field f : c.getDeclaredFields()) {
            due(f + " is private", Modifier.isPrivate(f.getModifiers()));
        }
    }

    private static String signature(Method m) {
        List<String> parameters = new ArrayList<>();
        for (Class<?> p : m.getParameterTypes()) {
            parameters.add(p.getName());
        }
        StringBuilder text = new StringBuilder(m.getReturnType() + " " + m.getName());
        text.append('(').append(String.join(",", parameters)).append(')');
        for (Class<?> e : m.getExceptionTypes()) {
            text.append(' ').append(e.getSimpleName());
        }
        return text.toString();
    }

    private static void checkClass(Class<?> c) {
        int modifiers = c.getModifiers();
        due(c + " is static and not public", c == SecretVault.class
            || Modifier.isStatic(modifiers) && !Modifier.isPublic(modifiers) && !Modifier.isProtected(modifiers));
        int fields = 0;
        for (Field f : c.getDeclaredFields()) {
            due(f + " is final if it is static", !Modifier.isStatic(f.getModifiers()) || Modifier.isFinal(f.getModifiers()));
            fields += Modifier.isStatic(f.getModifiers()) ? 0 : 1;
        }
        due(c + " has at most twenty fields", fields <= 20);
        for (Method m : c.getDeclaredMethods()) {
            due(m + " has at most seven parameters", m.getParameterCount() <= 7);
            due(m + " has no name of the face", Modifier.isPublic(m.getModifiers()) || !NAMES.contains(m.getName()));
        }
    }

    private static void checkText(List<String> lines) {
        int begin = -1;
        for (int i = 0; i < lines.size(); i++) {
            String line = lines.get(i);
            String code = line.replaceFirst("//.*|^ *(/\\*\\*|\\*).*", "");
            for (String pattern : FORBIDDEN) {
                Matcher m = Pattern.compile(pattern).matcher(code);
                due("line " + (i + 1) + " without " + pattern, !m.find());
            }
            due("line " + (i + 1) + " throws by rule 6", !code.contains("throw ") || code.matches(
                " *throw new (IllegalState|IllegalArgument|IndexOutOfBounds|Arithmetic|UnsupportedOperation|NoSuchElement)"
                + "(Exception)\\(\"[a-z0-9 -]+\"\\);"));
            if (code.matches(" {4}( {4})?[^ ].*[({,]") && !code.contains("class ")) {
                begin = i;
            } else if (code.matches(" {4}( {4})?}")) {
                due("the method that ends in line " + (i + 1) + " is short", begin < 0 || i - begin <= 60);
            }
        }
    }
}
