import java.lang.reflect.Method;
import java.util.ArrayList;
import java.util.Comparator;
import java.util.HashMap;
import java.util.List;
import java.util.Map;
import java.util.Random;
import java.util.TreeSet;

/** Promises 1 to 51: runs of calls on TalkBridge and on Model, whose answers must be alike. The numbers are always the same. */
public final class RandomRunsTest {
    private static final int RUNS = Integer.getInteger("runs", 400);
    private static final Map<String, TreeSet<Integer>> ANSWERS = new HashMap<>();

    private final Random random;
    private final TalkBridge bridge = new TalkBridge();
    private final Model model = new Model();
    private final StringBuilder story = new StringBuilder();
    private int calls = 0;

    private RandomRunsTest(long seed) {
        // seeds that lie side by side begin alike: they are spread first
        random = new Random(0x9E3779B97F4A7C15L * (seed + 1));
    }

    public static void main(String[] args) throws ReflectiveOperationException {
        List<Method> methods = new ArrayList<>();
        for (Method method : TalkBridge.class.getDeclaredMethods()) {
            if (java.lang.reflect.Modifier.isPublic(method.getModifiers())) {
                methods.add(method);
            }
        }
        methods.sort(Comparator.comparing(Method::getName));
        Due.due("public methods", methods.size(), 50);
        for (int run = 0; run < RUNS; run++) {
            new RandomRunsTest(run).go(methods);
        }
        for (Method method : methods) {
            // a call that only ever gave one answer would tell nothing
            int kinds = ANSWERS.getOrDefault(method.getName(), new TreeSet<>()).size();
            Due.due("kinds of answers of " + method.getName() + " are two at least", kinds >= 2, true);
        }
        for (int fault = 0; fault <= 5; fault++) {
            Due.due("a text with fault " + fault + " was read", ANSWERS.get("fault").contains(fault), true);
        }
        Due.finish("RandomRunsTest");
    }

    private void go(List<Method> methods) throws ReflectiveOperationException {
        boolean faulty = random.nextInt(4) == 0;
        for (int rivers = 0; rivers < (faulty ? 6 : 2); rivers++) {
            tell(Texts.any(random, faulty && rivers > 0));
            for (int i = 0; i < (faulty ? 20 : 120) && calls < 500; i++) {
                Method method = random.nextInt(3) == 0 ? act() : methods.get(random.nextInt(methods.size()));
                if (!method.getName().equals("river") && !method.getName().equals("feed")) {
                    call(method, anyArguments(method));
                }
            }
        }
    }

    private Method act() throws ReflectiveOperationException {
        String[] names = {"cross", "cross", "cross", "cross", "mend", "hand", "again", "undo", "redo", "took", "was", "were"};
        String name = names[random.nextInt(names.length)];
        for (Method method : TalkBridge.class.getDeclaredMethods()) {
            if (method.getName().equals(name)) {
                return method;
            }
        }
        throw new NoSuchMethodException(name);
    }

    private void tell(String text) throws ReflectiveOperationException {
        Method feed = TalkBridge.class.getMethod("feed", int.class, int.class, int.class, int.class, int.class);
        call(TalkBridge.class.getMethod("end", int.class), new Object[] {0});
        story.append("\n\"").append(text).append("\"\n");
        StringBuilder full = new StringBuilder(text);
        while (full.length() % 20 != 0) {
            full.append(' ');
        }
        for (int at = 0; at < full.length(); at += 20) {
            Object[] fours = new Object[5];
            for (int i = 0; i < 5; i++) {
                int four = 0;
                for (int j = 0; j < 4; j++) {
                    four = four << 8 | full.charAt(at + 4 * i + j);
                }
                fours[i] = four;
            }
            call(feed, fours);
        }
        call(TalkBridge.class.getMethod("end", int.class), new Object[] {text.length()});
        call(TalkBridge.class.getMethod("river"), new Object[0]);
        call(TalkBridge.class.getMethod("fault", int.class), new Object[] {0});
        call(TalkBridge.class.getMethod("fault", int.class), new Object[] {1});
    }

    private void call(Method method, Object[] arguments) throws ReflectiveOperationException {
        calls++;
        Object got = method.invoke(bridge, arguments);
        Object want = Model.class.getMethod(method.getName(), method.getParameterTypes()).invoke(model, arguments);
        String call = method.getName() + java.util.Arrays.toString(arguments);
        story.append(call).append(' ').append(got).append('\n');
        if (!got.equals(want)) {
            Due.due(story + call, number(got), number(want));
            story.setLength(0);
        } else {
            Due.due(call, 0, 0);
        }
        ANSWERS.computeIfAbsent(method.getName(), n -> new TreeSet<>()).add(number(want));
    }

    private static int number(Object answer) {
        return answer instanceof Boolean is ? (is ? 1 : 0) : (Integer) answer;
    }

    private Object[] anyArguments(Method method) {
        Class<?>[] types = method.getParameterTypes();
        Object[] arguments = new Object[types.length];
        for (int i = 0; i < types.length; i++) {
            arguments[i] = types[i] == boolean.class ? (Object) random.nextBoolean() : (Object) anyNumber(method.getName(), i);
        }
        return arguments;
    }

    private int anyNumber(String name, int at) {
        if (random.nextInt(25) == 0) {
            int[] odd = {-1, Integer.MIN_VALUE, Integer.MAX_VALUE, 7, 8, 12, 16, 31, 32, 33, 128, 255, 9999, 10000};
            return odd[random.nextInt(odd.length)];
        }
        int persons = Math.max(1, model.about(0));
        return switch (name) {
            case "cross", "group", "hush", "split", "lacks", "bear", "ears", "worth" -> at == 0 ? anySet(persons) : small(name);
            case "keep" -> at == 0 ? anySet(persons) : at == 1 ? random.nextInt(30) : random.nextInt(2);
            case "matter" -> random.nextInt(at == 0 ? Math.max(1, model.about(1)) : 7);
            case "voice" -> random.nextInt(at == 0 ? Math.max(1, model.about(1)) : 2);
            case "again" -> random.nextInt(Math.max(1, model.about(1)));
            case "person", "partner", "was", "friends" -> at == 0 ? random.nextInt(persons) : small(name);
            case "hand" -> at < 2 ? random.nextInt(persons) : 1 + random.nextInt(6);
            case "within" -> random.nextInt(at == 0 ? 2 : 40);
            case "took" -> 1 + random.nextInt(20);
            case "sure", "ask", "fits" -> at == 0 && name.equals("sure") ? random.nextInt(persons)
                : at == 0 && name.equals("ask") ? random.nextInt(2) : model.about(10) - random.nextInt(3);
            case "later" -> random.nextInt(3);
            case "untell" -> random.nextInt(Math.max(1, model.about(9)));
            case "about" -> random.nextInt(18);
            case "odds" -> random.nextInt(at == 0 ? 5 : 2);
            case "were" -> 1 + random.nextInt(3);
            default -> random.nextInt(3);
        };
    }

    private int small(String name) {
        return random.nextInt(name.equals("group") ? 7 : name.equals("person") ? 6 : 2);
    }

    /** Mostly one that is on one BANK. */
    private int anySet(int persons) {
        int far = model.about(2);
        int set = random.nextInt(1 << persons);
        int choice = random.nextInt(6);
        return choice == 0 ? set : choice < 4 ? set & ~far : set & far;
    }
}
