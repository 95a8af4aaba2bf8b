import java.lang.reflect.InvocationTargetException;
import java.lang.reflect.Method;
import java.util.ArrayList;
import java.util.Arrays;
import java.util.HashMap;
import java.util.List;
import java.util.Map;
import java.util.regex.Matcher;
import java.util.regex.Pattern;

/**
 * A run of calls written down: "&lt;n3;e0 1 2;&gt;=2 sends(0,1)=2 way(5)=NONE". What stands in &lt;&gt; is typed and read by net();
 * a call without = may answer anything. It is run on anything that has the methods: the class, the model, a mutant.
 */
final class Script {
    /** An object is used for so many calls at most: what later ones answer is free. */
    static final int MOST_CALLS = 512;

    private static final Pattern STEP = Pattern.compile("\\s*(?:<([^>]*)>|(\\w+)\\(([^)]*)\\))(?:=(-?\\w+))?\\s*", Pattern.DOTALL);
    private static final Map<String, Integer> WORDS = Map.of("BAD", -1, "STATE", -2, "FULL", -3, "NONE", -9);
    private static final Map<Class<?>, Map<String, Method>> METHODS = new HashMap<>();

    private record Step(String call, String name, Object[] numbers, Integer due) { }

    private final List<Step> steps = new ArrayList<>();

    Script(String written) {
        String text = written.trim();
        Matcher m = STEP.matcher(text);
        int at = 0;
        while (at < text.length()) {
            if (!m.find(at) || m.start() != at) {
                throw new IllegalStateException("no script: " + text.substring(at));
            }
            Integer due = m.group(4) == null ? null : number(m.group(4));
            if (m.group(1) != null) {
                addTold(m.group(1), due);
            } else {
                steps.add(new Step(m.group(2) + "(" + m.group(3) + ")", m.group(2), numbers(m.group(3)), due));
            }
            at = m.end();
        }
    }

    /** The calls that type a text, without net(). */
    static String typed(String letters) {
        StringBuilder calls = new StringBuilder();
        for (int i = 0; i < letters.length(); i++) {
            calls.append("type(").append((int) letters.charAt(i)).append(") ");
        }
        return calls.toString();
    }

    private void addTold(String told, Integer due) {
        for (int i = 0; i < told.length(); i++) {
            steps.add(new Step("type(" + (int) told.charAt(i) + ")", "type", new Object[] {(int) told.charAt(i)}, null));
        }
        steps.add(new Step("net() of '" + told + "'", "net", new Object[0], due));
    }

    private static Integer number(String word) {
        return WORDS.containsKey(word) ? WORDS.get(word) : Integer.valueOf(word);
    }

    private static Object[] numbers(String list) {
        return list.isBlank() ? new Object[0] : Arrays.stream(list.split(",")).map(one -> Integer.valueOf(one.trim())).toArray();
    }

    int calls() {
        return steps.size();
    }

    /** How many of its answers are told. */
    long dues() {
        return steps.stream().filter(step -> step.due() != null).count();
    }

    /** The first call whose answer is not as due, with both; null: there is none. */
    String firstWrong(Object target) {
        if (calls() > MOST_CALLS) {
            return "a run of " + calls() + " calls";
        }
        for (Step step : steps) {
            int got = call(target, step);
            if (step.due() != null && step.due() != got) {
                return step.call() + " answered " + got + ", due is " + step.due();
            }
        }
        return null;
    }

    /** Every call with its answer. */
    List<String> answers(Object target) {
        List<String> all = new ArrayList<>();
        for (Step step : steps) {
            all.add(step.call() + "=" + call(target, step));
        }
        return all;
    }

    private static int call(Object target, Step step) {
        try {
            return (int) methodsOf(target.getClass()).get(step.name()).invoke(target, step.numbers());
        } catch (InvocationTargetException e) {
            throw new IllegalStateException(step.call() + " threw " + e.getCause(), e.getCause());
        } catch (IllegalAccessException e) {
            throw new IllegalStateException(e);
        }
    }

    private static synchronized Map<String, Method> methodsOf(Class<?> one) {
        return METHODS.computeIfAbsent(one, key -> {
            Map<String, Method> found = new HashMap<>();
            for (Method m : key.getDeclaredMethods()) {
                m.setAccessible(true);
                found.put(m.getName(), m);
            }
            return found;
        });
    }
}
