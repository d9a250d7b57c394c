import java.io.IOException;
import java.lang.reflect.Constructor;
import java.lang.reflect.Field;
import java.lang.reflect.Method;
import java.lang.reflect.Modifier;
import java.nio.file.Files;
import java.nio.file.Path;
import java.util.ArrayList;
import java.util.List;
import java.util.Set;
import java.util.TreeSet;
import java.util.regex.Matcher;
import java.util.regex.Pattern;

/**
 * The class has the document's face, word for word, and keeps the rules of LANGUAGE.md as far as its words show it. Where
 * a rule says "some", what is tested leaves room.
 */
public final class RulesTest {
    private static final Path SOURCE = Path.of("src/main/java/SecretVault.java");
    private static final Path DOCUMENT = Path.of("../shared/DOC.md");
    private static final Set<String> EXCEPTIONS = Set.of("IllegalStateException", "IllegalArgumentException",
        "IndexOutOfBoundsException", "ArithmeticException", "UnsupportedOperationException", "NoSuchElementException",
        "RuntimeException");
    private static final Set<String> LIBRARY = Set.of("String", "StringBuilder", "ArrayList", "List", "Integer", "Long", "Math",
        "Iterator", "Iterable", "Comparable", "System", "Arrays", "Override");
    private static final Set<String> NO_METHOD = Set.of("if", "for", "while", "switch", "catch", "try", "do", "else", "class",
        "interface", "enum", "record", "new", "=", "->", "return");
    private static final Set<String> NEVER = Set.of("package", "synchronized", "assert", "finally", "::",
        "getMessage");

    private static final Set<String> FACE = new TreeSet<>();
    private static int wrong = 0;

    /** A word, a sign, or a text in quotes of the program, without its comments. */
    private record Token(String text, int line) {
        boolean is(String other) {
            return text.equals(other);
        }

        boolean isText() {
            return text.startsWith("\"");
        }

        boolean isName() {
            return Character.isJavaIdentifierStart(text.charAt(0));
        }
    }

    public static void main(String[] args) throws IOException {
        String document = Files.readString(DOCUMENT);
        checkFace(document.substring(document.indexOf("```java"), document.indexOf("## Description")));
        checkPromises(document);
        List<Class<?>> classes = new ArrayList<>(List.of(SecretVault.class));
        classes.addAll(List.of(SecretVault.class.getDeclaredClasses()));
        due("rule 11: at most some twelve classes", classes.size() <= 16);
        for (Class<?> c : classes) {
            checkClass(c);
        }
        List<Token> tokens = tokens(Files.readString(SOURCE));
        checkWords(tokens);
        checkNames(tokens);
        checkThrows(tokens);
        checkArrows(tokens);
        checkConstructors(tokens);
        checkMethods(tokens);
        System.out.println(wrong == 0 ? "the rules are kept" : wrong + " rules are broken");
        if (wrong != 0) {
            System.exit(1);
        }
    }

    private static void due(String what, boolean holds) {
        if (!holds) {
            wrong++;
            System.out.println("not so: " + what);
        }
    }

    // ---- the face

    private static String signature(String written) {
        String text = written.replaceAll("\\s+", " ").replaceAll("public |java\\.util\\.|;$", "").strip();
        int end = text.indexOf(')');
        String parameters = text.substring(0, end).replaceAll("(int|boolean) \\w+(?=,|$)", "$1");
        return (parameters + text.substring(end)).replace(" throws ", " ").replace(", ", ",");
    }

    private static String signature(Method m) {
        StringBuilder text = new StringBuilder(m.getReturnType() + " " + m.getName() + "(");
        for (int i = 0; i < m.getParameterCount(); i++) {
            text.append(i == 0 ? "" : ",").append(m.getParameterTypes()[i].getName());
        }
        text.append(')');
        for (int i = 0; i < m.getExceptionTypes().length; i++) {
            text.append(i == 0 ? " " : ",").append(m.getExceptionTypes()[i].getSimpleName());
        }
        return text.toString();
    }

    private static void checkFace(String face) {
        Class<?> c = SecretVault.class;
        due("public final class", Modifier.isPublic(c.getModifiers()) && Modifier.isFinal(c.getModifiers()));
        due("no superclass, no interface", c.getSuperclass() == Object.class && c.getInterfaces().length == 0);
        due("no type parameters", c.getTypeParameters().length == 0);
        Constructor<?>[] made = c.getDeclaredConstructors();
        due("one constructor", made.length == 1 && Modifier.isPublic(made[0].getModifiers())
            && made[0].getParameterCount() == 0 && made[0].getExceptionTypes().length == 0);
        for (Method m : c.getDeclaredMethods()) {
            if (!Modifier.isPrivate(m.getModifiers()) && !m.isSynthetic()) {
                due("rule 1: " + m + " is public and of objects", m.getModifiers() == Modifier.PUBLIC);
                FACE.add(signature(m));
            }
        }
        Set<String> want = new TreeSet<>();
        for (String line : face.lines().toList()) {
            if (line.matches("    public \\w+ \\w+\\(.*")) {
                want.add(signature(line));
            }
        }
        due("36 methods in the document", want.size() == 36);
        due("the face of the document: " + want + " but " + FACE, FACE.equals(want));
        for (Field f : c.getDeclaredFields()) {
            due("rule 1: " + f + " is private", Modifier.isPrivate(f.getModifiers()) || f.isSynthetic());
        }
    }

    /** "The constructor and the methods follow, a promise each: the signature, then what it does." */
    private static void checkPromises(String document) {
        Matcher promise = Pattern.compile("## Promise (\\d+): (.+)\\n\\n`(.+)`\\n").matcher(document);
        int number = 0;
        while (promise.find()) {
            number++;
            due("promise " + number + " is in order", promise.group(1).equals(String.valueOf(number)));
            String signature = promise.group(3);
            due("promise " + number + ": " + signature,
                number == 1 ? signature.equals("SecretVault()") : FACE.contains(signature(signature)));
        }
        due("37 promises", number == 37);
    }

    private static void checkClass(Class<?> c) {
        int modifiers = c.getModifiers();
        due("rule 1: " + c + " is not public", c == SecretVault.class
            || !Modifier.isPublic(modifiers) && !Modifier.isProtected(modifiers));
        int fields = 0;
        for (Field f : c.getDeclaredFields()) {
            due("rule 5: " + f + " is final if it is static",
                !Modifier.isStatic(f.getModifiers()) || Modifier.isFinal(f.getModifiers()));
            fields += Modifier.isStatic(f.getModifiers()) || f.isSynthetic() ? 0 : 1;
        }
        due("rule 11: " + c + " has at most some twenty fields", fields <= 26);
        for (Method m : c.getDeclaredMethods()) {
            due("rule 11: " + m + " has at most seven parameters", m.getParameterCount() <= 7);
            boolean named = FACE.stream().anyMatch(face -> face.contains(" " + m.getName() + "("));
            due("rule 1: private " + m + " has no name of the face", !Modifier.isPrivate(m.getModifiers()) || !named);
        }
    }

    // ---- the program's words

    private static List<Token> tokens(String program) {
        Pattern token = Pattern.compile("//[^\\n]*|(?s:/\\*.*?\\*/)|\"(?:[^\"\\\\\\n]|\\\\.)*\"|'(?:[^'\\\\]|\\\\[^']+|\\\\')'"
            + "|[A-Za-z_$][\\w$]*|[0-9][\\w.]*|->|::|\\S");
        List<Token> tokens = new ArrayList<>();
        Matcher m = token.matcher(program);
        while (m.find()) {
            if (!m.group().startsWith("//") && !m.group().startsWith("/*")) {
                int line = 1 + (int) program.substring(0, m.start()).chars().filter(c -> c == '\n').count();
                tokens.add(new Token(m.group(), line));
            }
        }
        return tokens;
    }

    private static Token at(List<Token> tokens, int index) {
        return index >= 0 && index < tokens.size() ? tokens.get(index) : new Token(" ", 0);
    }

    private static void checkWords(List<Token> tokens) {
        for (int i = 0; i < tokens.size(); i++) {
            Token t = tokens.get(i);
            Token next = at(tokens, i + 1);
            String where = "line " + t.line + ": " + t.text;
            due(where + " is not allowed", !NEVER.contains(t.text));
            due("rule 4: " + where, !(t.text.matches("Math|Integer|Long") && at(tokens, i + 2).text.endsWith("Exact")));
            due("rule 4: " + where + " has signs from 1 to 127", !t.isText() || t.text.matches("[\\x01-\\x7f]*"));
            due("rule 4: " + where, !t.is("System") || at(tokens, i + 2).is("arraycopy"));
            due("rule 5: " + where + " {", !t.is("static") || !next.is("{"));
            due("rule 6: " + where, !t.is("try") || next.is("{"));
            due("rule 10: " + where, !t.isText() || !next.is("+") && !at(tokens, i - 1).is("+"));
        }
    }

    /** Each name with a small letter behind a capital one is a class of this file or of the library. */
    private static void checkNames(List<Token> tokens) {
        Set<String> known = new TreeSet<>(LIBRARY);
        known.addAll(EXCEPTIONS);
        for (int i = 1; i < tokens.size(); i++) {
            if (Set.of("class", "interface", "enum", "record").contains(at(tokens, i - 1).text)) {
                known.add(tokens.get(i).text);
                for (int j = i + 1; at(tokens, i + 1).is("<") && !at(tokens, j).is("{") && j < tokens.size(); j++) {
                    known.add(tokens.get(j).text);
                }
            }
        }
        for (Token t : tokens) {
            boolean isClass = t.text.matches("[A-Z]\\w*[a-z]\\w*");
            due("rule 4: line " + t.line + ": " + t.text + " is allowed", !isClass || known.contains(t.text));
        }
    }

    private static void checkThrows(List<Token> tokens) {
        for (int i = 0; i < tokens.size(); i++) {
            if (tokens.get(i).is("throw")) {
                int end = at(tokens, i + 4).isText() ? i + 5 : i + 4;
                due("rule 6: throw in line " + tokens.get(i).line, at(tokens, i + 1).is("new")
                    && EXCEPTIONS.contains(at(tokens, i + 2).text) && at(tokens, i + 3).is("(")
                    && at(tokens, end).is(")") && at(tokens, end + 1).is(";"));
            }
            if (tokens.get(i).is("catch")) {
                int type = at(tokens, i + 2).is("final") ? i + 3 : i + 2;
                due("rule 6: catch in line " + tokens.get(i).line, EXCEPTIONS.contains(at(tokens, type).text));
            }
        }
    }

    /** An arrow stands behind a case or a default, not behind the parameters of a lambda. */
    private static void checkArrows(List<Token> tokens) {
        for (int i = 0; i < tokens.size(); i++) {
            if (tokens.get(i).is("->")) {
                int begin = i - 1;
                while (begin > 0 && !Set.of("case", "default", ";", "{", "}").contains(tokens.get(begin).text)) {
                    begin--;
                }
                due("rule 2: no lambda in line " + tokens.get(i).line, Set.of("case", "default").contains(tokens.get(begin).text));
            }
        }
    }

    private static int endOfBlock(List<Token> tokens, int begin) {
        int open = 0;
        for (int i = begin; i < tokens.size(); i++) {
            open += tokens.get(i).is("{") ? 1 : tokens.get(i).is("}") ? -1 : 0;
            if (open == 0) {
                return i;
            }
        }
        return tokens.size() - 1;
    }

    private static void checkConstructors(List<Token> tokens) {
        Set<String> classes = new TreeSet<>();
        for (int i = 1; i < tokens.size(); i++) {
            if (at(tokens, i - 1).is("class")) {
                classes.add(tokens.get(i).text);
            }
        }
        for (int i = 1; i < tokens.size(); i++) {
            boolean begins = Set.of("public", "private", "{", "}", ";").contains(at(tokens, i - 1).text);
            if (begins && classes.contains(tokens.get(i).text) && at(tokens, i + 1).is("(")) {
                int body = i;
                while (body < tokens.size() - 1 && !tokens.get(body).is("{")) {
                    body++;
                }
                for (int j = body; j < endOfBlock(tokens, body); j++) {
                    due("rule 6: no throw in a constructor, line " + tokens.get(j).line, !tokens.get(j).is("throw"));
                }
            }
        }
    }

    private static void checkMethods(List<Token> tokens) {
        int methods = 0;
        for (int i = 0; i < tokens.size(); i++) {
            if (tokens.get(i).is("{")) {
                boolean method = false;
                for (int j = i - 1; j >= 0 && !Set.of("{", "}", ";").contains(tokens.get(j).text); j--) {
                    method = method || tokens.get(j).is("(");
                    if (NO_METHOD.contains(tokens.get(j).text)) {
                        method = false;
                        break;
                    }
                }
                int lines = at(tokens, endOfBlock(tokens, i)).line - tokens.get(i).line;
                methods += method ? 1 : 0;
                due("rule 11: some sixty lines from line " + tokens.get(i).line, !method || lines <= 80);
            }
        }
        due("all methods were seen", methods >= 37);
    }
}
