import java.io.ByteArrayOutputStream;
import java.io.OutputStream;
import java.net.URI;
import java.nio.file.Files;
import java.nio.file.Path;
import java.util.ArrayList;
import java.util.HashMap;
import java.util.List;
import java.util.Map;
import java.util.concurrent.Callable;
import java.util.concurrent.ExecutorService;
import java.util.concurrent.Executors;
import java.util.concurrent.Future;
import java.util.regex.Matcher;
import java.util.regex.Pattern;
import javax.tools.ForwardingJavaFileManager;
import javax.tools.JavaCompiler;
import javax.tools.JavaFileManager;
import javax.tools.JavaFileObject;
import javax.tools.SimpleJavaFileObject;
import javax.tools.StandardJavaFileManager;
import javax.tools.ToolProvider;

/**
 * Run by hand, not by .ci/run: changes the class in one place at a time and tells each change that EdgeTest and SameTest
 * do not notice. Such a change is either one that no call can notice, or a boundary case without a test.
 */
public final class Mutants {
    private static final long MOST_MILLIS = 20000;
    private static final String COMPARED = "[\\w.]+(\\([^()]*\\)|\\[[^\\[\\]]*\\])? ([<>]=?|[=!]=) [\\w.'-]+(\\([^()]*\\)|\\[[^\\[\\]]*\\])?";
    /** What is looked for in a line, and what takes its place. */
    private static final String[][] CHANGES = {
        {"(?<![<>=!-])<(?![<=])", "<="}, {"(?<![<>])<=", "<"}, {"(?<![<>=-])>(?![>=])", ">="}, {">=", ">"}, {"(?<![<>])<=", "=="},
        {"==", "!="}, {"!=", "=="}, {"&&", "||"}, {"\\|\\|", "&&"}, {" \\+ ", " - "}, {" - ", " + "}, {"\\+\\+", "--"}, {"--", "++"},
        {"\\+= ", "= "}, {"\\|= ", "= "}, {" \\* ", " + "}, {" / ", " % "}, {" % ", " / "}, {">>", ">>>"}, {">> ", "<< "},
        {"\\btrue\\b", "false"}, {"\\bfalse\\b", "true"}, {"Math\\.min", "Math.max"}, {"Math\\.max", "Math.min"},
        {"\\bBAD\\b", "STATE"}, {"\\bSTATE\\b", "FULL"}, {"\\bFULL\\b", "STATE"}, {"\\bNONE\\b", "BAD"}, {"\\bNEVER\\b", "1"},
        {"return (?!0)[^;]+;", "return 0;"}, {"return (?!1)[^;]+;", "return 1;"}, {"!(?=[a-zA-Z])", ""},
        {COMPARED, "true"}, {COMPARED, "false"}, {"(?<=[(!|& ])[a-z]\\w*\\([^()]*\\)(?=[ )])", "true"}, {"(?<=[(!|& ])[a-z]\\w*\\([^()]*\\)(?=[ )])", "false"},
        {"\\bu\\b", "v"}, {"\\bv\\b", "u"}, {"\\bu\\b", "d"}, {"\\bd\\b", "u"}, {"\\bd\\b", "v"}, {"\\bv\\b", "d"}, {"\\bhere\\b", "to"}, {"\\bto\\b", "here"},
        {"\\bhere\\b", "goal"}, {"\\bgoal\\b", "here"}, {"\\bgoal\\b", "u"}, {"\\bgoal\\b", "v"}, {"\\bold\\b", "told"}, {"\\btold\\b", "old"}};

    private record Mutant(int line, String text, String source) { }

    private final JavaCompiler compiler = ToolProvider.getSystemJavaCompiler();
    private final List<Edge> edges = EdgeTest.rows();
    private final List<Script> scripts = new ArrayList<>();
    private final List<Same> sames = SameTest.rows();

    private Mutants() {
        for (Edge edge : edges) {
            scripts.add(new Script(edge.script()));
        }
    }

    public static void main(String[] args) throws Exception {
        new Mutants().run(Files.readString(Path.of("src/main/java/AskedRoutes.java")));
        System.exit(0);
    }

    private void run(String source) throws Exception {
        List<Mutant> all = mutantsOf(source);
        ExecutorService workers = Executors.newFixedThreadPool(Runtime.getRuntime().availableProcessors());
        List<Future<String>> ends = workers.invokeAll(all.stream().map(one -> (Callable<String>) () -> endOf(one)).toList());
        Map<String, Integer> sums = new HashMap<>();
        for (int i = 0; i < all.size(); i++) {
            String end = ends.get(i).get();
            sums.merge(end, 1, Integer::sum);
            if (end.equals("not noticed")) {
                System.out.println("line " + all.get(i).line() + ": " + all.get(i).text());
            }
        }
        System.out.println(sums);
    }

    private static List<Mutant> mutantsOf(String source) {
        String[] lines = source.split("\n");
        List<Mutant> all = new ArrayList<>();
        for (int i = 0; i < lines.length; i++) {
            String line = lines[i];
            if (line.isBlank() || line.trim().startsWith("//") || line.trim().startsWith("/**") || line.startsWith("import")) {
                continue;
            }
            for (String[] change : CHANGES) {
                Matcher m = Pattern.compile(change[0]).matcher(line);
                while (m.find()) {
                    add(all, lines, i, line.substring(0, m.start()) + change[1] + line.substring(m.end()));
                }
            }
            addNumbers(all, lines, i);
            if (line.trim().endsWith(";") && !line.trim().startsWith("return") && !line.contains("final ")) {
                add(all, lines, i, ";");
            }
        }
        return all;
    }

    private static void addNumbers(List<Mutant> all, String[] lines, int i) {
        Matcher m = Pattern.compile("(?<![\\w.])\\d+(?![\\w.])").matcher(lines[i]);
        while (m.find()) {
            long number = Long.parseLong(m.group());
            for (long other : new long[] {number + 1, number - 1}) {
                add(all, lines, i, lines[i].substring(0, m.start()) + other + lines[i].substring(m.end()));
            }
        }
    }

    private static void add(List<Mutant> all, String[] lines, int i, String text) {
        String[] changed = lines.clone();
        changed[i] = text;
        all.add(new Mutant(i + 1, lines[i].trim() + "   ->   " + text.trim(), String.join("\n", changed)));
    }

    @SuppressWarnings("deprecation")
    private String endOf(Mutant mutant) throws Exception {
        Map<String, byte[]> classes = compiled(mutant.source());
        if (classes == null) {
            return "does not compile";
        }
        Class<?> one = new Loader(classes).loadClass("AskedRoutes");
        boolean[] unnoticed = new boolean[1];
        Thread worker = new Thread(() -> unnoticed[0] = passes(one));
        worker.setDaemon(true);
        worker.start();
        worker.join(MOST_MILLIS);
        if (worker.isAlive()) {
            worker.stop();
            return "does not end";
        }
        return unnoticed[0] ? "not noticed" : "noticed";
    }

    private boolean passes(Class<?> one) {
        try {
            for (Script script : scripts) {
                if (script.firstWrong(made(one)) != null) {
                    return false;
                }
            }
            Map<String, List<String>> had = new HashMap<>();
            for (Same same : sames) {
                if (SameTest.firstWrong(same, () -> made(one), had) != null) {
                    return false;
                }
            }
            return true;
        } catch (RuntimeException | Error e) {
            return false;
        }
    }

    private static Object made(Class<?> one) {
        try {
            return one.getConstructor().newInstance();
        } catch (ReflectiveOperationException e) {
            throw new IllegalStateException(e);
        }
    }

    private Map<String, byte[]> compiled(String source) {
        Map<String, ByteArrayOutputStream> out = new HashMap<>();
        StandardJavaFileManager files = compiler.getStandardFileManager(null, null, null);
        JavaFileManager manager = new ForwardingJavaFileManager<>(files) {
            @Override
            public JavaFileObject getJavaFileForOutput(Location at, String name, JavaFileObject.Kind kind, javax.tools.FileObject by) {
                return new SimpleJavaFileObject(URI.create("mem:///" + name + ".class"), kind) {
                    @Override
                    public OutputStream openOutputStream() {
                        return out.computeIfAbsent(name, key -> new ByteArrayOutputStream());
                    }
                };
            }
        };
        JavaFileObject file = new SimpleJavaFileObject(URI.create("mem:///AskedRoutes.java"), JavaFileObject.Kind.SOURCE) {
            @Override
            public CharSequence getCharContent(boolean ignored) {
                return source;
            }
        };
        if (!compiler.getTask(null, manager, message -> { }, List.of("-proc:none"), null, List.of(file)).call()) {
            return null;
        }
        Map<String, byte[]> classes = new HashMap<>();
        out.forEach((name, bytes) -> classes.put(name, bytes.toByteArray()));
        return classes;
    }

    private static final class Loader extends ClassLoader {
        private final Map<String, byte[]> classes;

        Loader(Map<String, byte[]> classes) {
            super(Object.class.getClassLoader());
            this.classes = classes;
        }

        @Override
        protected Class<?> findClass(String name) throws ClassNotFoundException {
            byte[] bytes = classes.get(name);
            if (bytes == null) {
                throw new ClassNotFoundException(name);
            }
            return defineClass(name, bytes, 0, bytes.length);
        }
    }
}
