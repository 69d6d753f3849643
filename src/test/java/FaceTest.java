import java.lang.reflect.Constructor;
import java.lang.reflect.Field;
import java.lang.reflect.Method;
import java.lang.reflect.Modifier;
import java.nio.charset.StandardCharsets;
import java.nio.file.Files;
import java.nio.file.Path;
import java.util.HashSet;
import java.util.List;
import java.util.Set;
import java.util.TreeSet;
import java.util.regex.Matcher;
import java.util.regex.Pattern;

/** The public face of the document, and the rules of LANGUAGE.md that can be seen by a machine. */
public final class FaceTest {
    private static final String[] FACE = {
        "int card(int)", "int lean(int,int)", "int rule(int)", "int table(int,int)", "int most(int,int)",
        "int day(int,int)", "int start(int)", "int next(int)", "int answer(int,int)", "int skip(int)",
        "int bury(int,int,int)", "int undo()", "int memory(int,int,int,int)", "int when(int,int,int)",
        "int pupil(int,int)", "int known(int,int)", "int mean(int,int)", "int plan(int,int)",
        "int even(int,int)", "int load(int)", "int put(int,int)", "int test(int,int,int)",
        "int told(int,int)", "long weight(int)", "int level()", "int log()", "int logged(int,int)",
        "long surprise(int,int)", "int better(int)", "int other(int,int,int,int)", "int check(int)"};
    private static final String[] WORDS_RULED_OUT = {
        "throw", "throws", "try", "catch", "finally", "synchronized", "assert", "volatile", "transient", "native",
        "strictfp", "var", "import static", "System.out", "System.err", "Object", "Math.random", "Thread",
        "equals", "hashCode", "toString", "protected"};

    public static void main(String[] args) throws Exception {
        constants();
        methods();
        nothingElse();
        nestedClasses();
        String source = Files.readString(Path.of("src/main/java/LessonCards.java"), StandardCharsets.UTF_8);
        source(withoutComments(source));
        Dues.end("FaceTest");
    }

    private static void constants() {
        Dues.due("NONE", LessonCards.NONE, -1);
        Dues.due("FULL", LessonCards.FULL, -2);
        Dues.due("RING", LessonCards.RING, -3);
        Dues.due("EMPTY", LessonCards.EMPTY, -4);
        Dues.due("OPEN", LessonCards.OPEN, -5);
    }

    private static void methods() {
        Set<String> want = new TreeSet<>(List.of(FACE));
        Set<String> got = new TreeSet<>();
        for (Method method : LessonCards.class.getDeclaredMethods()) {
            if (!Modifier.isPrivate(method.getModifiers())) {
                got.add(signature(method));
                Dues.holds(method + " is public alone", method.getModifiers() == Modifier.PUBLIC);
            }
        }
        Dues.holds("the methods are those of the document: " + got, got.equals(want));
    }

    private static String signature(Method method) {
        StringBuilder text = new StringBuilder(method.getReturnType() + " " + method.getName() + "(");
        String comma = "";
        for (Class<?> type : method.getParameterTypes()) {
            text.append(comma).append(type);
            comma = ",";
        }
        return text.append(')').toString();
    }

    private static void nothingElse() {
        Dues.due("modifiers", LessonCards.class.getModifiers(), Modifier.PUBLIC | Modifier.FINAL);
        Constructor<?>[] constructors = LessonCards.class.getDeclaredConstructors();
        Dues.due("constructors", constructors.length, 1);
        Dues.due("constructor's parameters", constructors[0].getParameterCount(), 0);
        Dues.due("constructor is public", constructors[0].getModifiers(), Modifier.PUBLIC);
        Set<String> open = new TreeSet<>();
        for (Field field : LessonCards.class.getDeclaredFields()) {
            if (!Modifier.isPrivate(field.getModifiers())) {
                open.add(field.getName());
            }
        }
        Dues.holds("constants alone: " + open, open.equals(Set.of("NONE", "FULL", "RING", "EMPTY", "OPEN")));
    }

    private static void nestedClasses() {
        Set<String> face = new HashSet<>();
        for (Method method : LessonCards.class.getDeclaredMethods()) {
            if (Modifier.isPublic(method.getModifiers())) {
                face.add(method.getName());
            }
        }
        Class<?>[] nested = LessonCards.class.getDeclaredClasses();
        Dues.holds("at most 12 classes", nested.length + 1 <= 12);
        for (Class<?> one : nested) {
            Dues.holds(one + " is static", Modifier.isStatic(one.getModifiers()));
            Dues.holds(one + " is not open", !Modifier.isPublic(one.getModifiers())
                && !Modifier.isProtected(one.getModifiers()));
            closely(one, face);
        }
        closely(LessonCards.class, new HashSet<>());
    }

    private static void closely(Class<?> one, Set<String> face) {
        int fields = 0;
        for (Field field : one.getDeclaredFields()) {
            boolean isStatic = Modifier.isStatic(field.getModifiers());
            fields += isStatic ? 0 : 1;
            Dues.holds(field + " is final if static", !isStatic || Modifier.isFinal(field.getModifiers()));
        }
        Dues.holds(one + " has some twenty fields", fields <= 20);
        for (Method method : one.getDeclaredMethods()) {
            Dues.holds(method + " has a name of its own", !face.contains(method.getName()));
            Dues.holds(method + " takes at most seven", method.getParameterCount() <= 7);
        }
        for (Constructor<?> constructor : one.getDeclaredConstructors()) {
            Dues.holds(constructor + " takes at most seven", constructor.getParameterCount() <= 7);
        }
    }

    private static String withoutComments(String source) {
        return source.replaceAll("(?s)/\\*.*?\\*/", "").replaceAll("//[^\\n]*", "");
    }

    private static void source(String code) {
        for (String word : WORDS_RULED_OUT) {
            Matcher found = Pattern.compile("\\b" + Pattern.quote(word) + "\\b").matcher(code);
            Dues.holds("no " + word, !found.find());
        }
        Dues.holds("no lambda", !code.contains("->"));
        Dues.holds("no method reference", !code.contains("::"));
        Dues.holds("no annotation", !code.contains("@"));
        Dues.holds("no text", !code.contains("\""));
        Dues.holds("no package", !code.contains("package "));
        Matcher imports = Pattern.compile("import ([^;]+);").matcher(code);
        while (imports.find()) {
            Dues.holds("import " + imports.group(1), imports.group(1).equals("java.util.ArrayList"));
        }
        methodLengths(code);
    }

    /** Methods stand four or eight deep in the file. */
    private static void methodLengths(String code) {
        int begin = -1;
        int depth = 0;
        String[] lines = code.split("\n");
        for (int i = 0; i < lines.length; i++) {
            String line = lines[i];
            boolean opens = line.matches(" {4,8}[A-Za-z].*\\) \\{") && !line.matches(" +(if|for|while|switch) .*");
            if (opens && begin < 0) {
                begin = i;
                depth = line.length() - line.stripLeading().length();
            }
            if (begin >= 0 && line.equals(" ".repeat(depth) + "}")) {
                Dues.holds("short: " + lines[begin], i - begin <= 60);
                begin = -1;
            }
        }
    }
}
