import java.lang.reflect.Constructor;
import java.lang.reflect.Field;
import java.lang.reflect.Method;
import java.lang.reflect.Modifier;
import java.nio.file.Files;
import java.nio.file.Path;
import java.util.HashSet;
import java.util.List;
import java.util.Set;
import java.util.TreeSet;
import java.util.regex.Matcher;
import java.util.regex.Pattern;

/** The public face, and those rules of LANGUAGE.md that a look at the class and its text can tell. */
public final class LanguageTest {
    private static final Check check = new Check("LanguageTest");
    private static final String FACE = "type/1 clear/0 net/0 link/2 sends/2 rounds/1 cuts/1 lays/3 changes/2 undo/0 guess/3 mended/3 "
        + "best/2 node/2 used/1 way/1 path/3 astray/1 least/2 right/0 hurt/1 worst/0 sees/3 forget/0 unseen/0 keep/1 back/1 count/1";

    public static void main(String[] args) throws Exception {
        String source = Files.readString(Path.of("src/main/java/AskedRoutes.java"));
        String code = source.replaceAll("(?s)/\\*.*?\\*/", " ").replaceAll("//[^\n]*", " ");
        face();
        nested();
        words(code);
        library(code);
        methodsAreShort(code);
        check.holds("the text is ASCII", source.chars().allMatch(c -> c == '\n' || c >= 32 && c < 127));
        check.end();
    }

    private static void face() throws Exception {
        check.holds("public and final", Modifier.isPublic(AskedRoutes.class.getModifiers()) && Modifier.isFinal(AskedRoutes.class.getModifiers()));
        Set<String> names = new TreeSet<>();
        for (Method m : AskedRoutes.class.getDeclaredMethods()) {
            if (Modifier.isPublic(m.getModifiers())) {
                names.add(m.getName() + "/" + m.getParameterCount());
                check.holds(m.getName() + " answers int and is no static", m.getReturnType() == int.class && !Modifier.isStatic(m.getModifiers()));
            } else {
                check.holds(m.getName() + " is private", Modifier.isPrivate(m.getModifiers()));
            }
        }
        check.holds("the methods are those of the document: " + names, names.equals(new TreeSet<>(List.of(FACE.split(" ")))));
        Constructor<?>[] made = AskedRoutes.class.getDeclaredConstructors();
        check.holds("one public constructor", made.length == 1 && made[0].getParameterCount() == 0 && Modifier.isPublic(made[0].getModifiers()));
        int constants = 0;
        for (Field f : AskedRoutes.class.getDeclaredFields()) {
            check.holds(f.getName() + " is private or a constant of the face",
                Modifier.isPrivate(f.getModifiers()) || Set.of("BAD", "STATE", "FULL", "NONE").contains(f.getName()));
            check.holds(f.getName() + " is final, if static", !Modifier.isStatic(f.getModifiers()) || Modifier.isFinal(f.getModifiers()));
            constants += Modifier.isPublic(f.getModifiers()) ? 1 : 0;
        }
        check.due("public constants", constants, 4);
        check.due("BAD", AskedRoutes.BAD, -1);
        check.due("STATE", AskedRoutes.STATE, -2);
        check.due("FULL", AskedRoutes.FULL, -3);
        check.due("NONE", AskedRoutes.NONE, -9);
    }

    private static void nested() {
        Set<String> publicNames = new HashSet<>();
        for (String one : FACE.split(" ")) {
            publicNames.add(one.substring(0, one.indexOf('/')));
        }
        Class<?>[] inside = AskedRoutes.class.getDeclaredClasses();
        check.holds("some twelve classes", inside.length + 1 <= 12);
        for (Class<?> one : inside) {
            check.holds(one.getName() + " is static", Modifier.isStatic(one.getModifiers()));
            check.holds(one.getName() + " is not public", !Modifier.isPublic(one.getModifiers()) && !Modifier.isProtected(one.getModifiers()));
            check.holds(one.getName() + " has some twenty fields", one.getDeclaredFields().length <= 20);
            check.due(one.getName() + ": classes inside", one.getDeclaredClasses().length, 0);
            for (Method m : one.getDeclaredMethods()) {
                check.holds(m.getName() + " takes seven at most", m.getParameterCount() <= 7);
                check.holds(m.getName() + " has no name of the face", !publicNames.contains(m.getName()));
            }
            for (Field f : one.getDeclaredFields()) {
                check.holds(f.getName() + " is final, if static", !Modifier.isStatic(f.getModifiers()) || Modifier.isFinal(f.getModifiers()));
            }
        }
    }

    private static void words(String code) {
        for (String word : List.of("throw", "throws", "try", "catch", "finally", "synchronized", "assert", "package", "instanceof",
            "equals", "hashCode", "toString", "Thread", "Random", "nanoTime", "currentTimeMillis", "volatile", "native", "var")) {
            check.holds("no " + word, !Pattern.compile("\\b" + word + "\\b").matcher(code).find());
        }
        check.holds("no lambda, no method reference", !code.contains("->") && !code.contains("::"));
        check.holds("no text joined by +", !code.contains("\""));
        check.holds("no static block", !Pattern.compile("static\\s*\\{").matcher(code).find());
        check.holds("no loop without a bound", !Pattern.compile("while\\s*\\(\\s*true|for\\s*\\(\\s*;").matcher(code).find());
    }

    private static void library(String code) {
        Matcher imports = Pattern.compile("import ([\\w.*]+);").matcher(code);
        while (imports.find()) {
            check.holds("import " + imports.group(1), imports.group(1).equals("java.util.Arrays"));
        }
        Matcher calls = Pattern.compile("\\b(Arrays|System|Math|Integer|Long)\\.(\\w+)").matcher(code);
        Set<String> fine = Set.of("Arrays.fill", "Arrays.copyOf", "System.arraycopy", "Math.min", "Math.max");
        while (calls.find()) {
            check.holds(calls.group() + " is on the list", fine.contains(calls.group()));
        }
    }

    private static void methodsAreShort(String code) {
        Matcher heads = Pattern.compile("(?m)^( +)[\\w\\[\\] ]+\\([^;{}]*\\) \\{$").matcher(code);
        int found = 0;
        while (heads.find()) {
            int end = code.indexOf("\n" + heads.group(1) + "}", heads.start());
            check.holds("short: " + heads.group().trim(), end > 0 && code.substring(heads.start(), end).lines().count() <= 60);
            found++;
        }
        check.holds("methods were found", found > 28);
    }
}
