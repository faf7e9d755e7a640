import java.lang.reflect.Method;
import java.lang.reflect.Modifier;
import java.util.Arrays;

/**
 * All that the document limits, at its limit at once: 1,600 bytes, 7 PERSONS, 12 MATTERS, 60 units, 40 ACTS, 30 TIMED, 3 BOXES.
 * Then every method there with numbers at and beyond every edge, beside Model.
 */
public final class FullTest {
    /** The edges of all that a number can stand for, and what is just beyond. */
    private static final int[] EDGES = {Integer.MIN_VALUE, -2, -1, 0, 1, 2, 3, 4, 5, 6, 7, 8, 10, 11, 12, 15, 16, 17, 29, 30, 31, 32, 33,
        63, 64, 96, 127, 128, 255, 999, 1000, 1001, 9999, 10000, 100000, Integer.MAX_VALUE};
    private static final int[] FEWER = {-1, 0, 1, 2, 6, 7, 96, 127, 128, 9999, 10000, Integer.MAX_VALUE};

    public static void main(String[] args) throws ReflectiveOperationException {
        asTold();
        ways();
        groups();
        banks();
        told();
        acts();
        for (Method method : TalkBridge.class.getDeclaredMethods()) {
            if (Modifier.isPublic(method.getModifiers()) && !method.getName().equals("feed")) {
                sweep(method);
            }
        }
        Due.finish("FullTest");
    }

    /** Each has one word for the next, who has a lie without words for him; the seventh lacks a coin if all cross. */
    private static String text() {
        StringBuilder text = new StringBuilder();
        for (char name = 'a'; name <= 'g'; name++) {
            text.append("person ").append(name).append(" pace 1 coins ").append(name == 'g' ? 6 : 9).append(";");
        }
        for (char name = 'a'; name < 'g'; name++) {
            text.append("say ").append(name).append(" to ").append((char) (name + 1)).append(" 1;");
        }
        for (char name = 'a'; name < 'g'; name++) {
            text.append("say ").append((char) (name + 1)).append(" to ").append(name).append(" 0 lie;");
        }
        text.append("long steps+words-lies").append("+0".repeat(27)).append(";toll many").append("+0".repeat(29));
        text.append(";turns 0;draw 999;bridge 10");
        return text + " ".repeat(1599 - text.length()) + ";";
    }

    private static TalkBridge full() {
        return Due.river(text());
    }

    private static void asTold() {
        TalkBridge x = full();
        Due.due("bytes", text().length(), 1600);
        int[] about = {7, 12, 0, 0, 0, 0, 999, 0, 0, 0, 0, 0, 60, 0, 10, 20, 7};
        for (int what = 0; what < about.length; what++) {
            Due.due("about(" + what + ")", x.about(what), about[what]);
        }
        Due.due("the seventh's MATTERS", x.person(6, 4), 32 + 2048);
        Due.due("the first's MATTERS", x.person(0, 4), 1 + 64);
        Due.due("the twelfth is of the seventh", x.matter(11, 0), 6);
        Due.due("the twelfth is to the sixth", x.matter(11, 1), 5);
        Due.due("the twelfth's SECRET", x.matter(11, 5), 96);
        Due.due("friends(6)", x.friends(6), 32);
        Due.due("friends(3)", x.friends(3), 20);
        Due.due("talker", x.talker(), 1);
        Due.due("mute", x.mute(), 0);
        Due.due("apart", x.apart(), 0);
        Due.due("knowing", x.knowing(), 127);
        Due.due("single", x.single(), 70);
    }

    private static void ways() {
        TalkBridge x = full();
        Due.due("soonest", x.soonest(), 16);
        for (int i = 0; i < 7; i++) {
            Due.due("lies(" + i + ")", x.lies(i), 0);
        }
        Due.due("lies(7)", x.lies(7), -2);
        Due.due("silent(0)", x.silent(0), 16);
        Due.due("silent(1)", x.silent(1), 1);
        Due.due("lantern(0)", x.lantern(0), 16);
        Due.due("lantern(1)", x.lantern(1), 1);
    }

    private static void groups() {
        TalkBridge x = full();
        int[] all = {6, 0, 16, 16, 7, 4095};
        for (int what = 0; what < all.length; what++) {
            Due.due("group(127, " + what + ")", x.group(127, what), all[what]);
        }
        Due.due("partner(6, 0)", x.partner(6, 0), 0);
        Due.due("partner(0, 0)", x.partner(0, 0), 2);
        Due.due("partner(0, 1)", x.partner(0, 1), 10);
        Due.due("hush(127, 0)", x.hush(127, 0), 0);
        Due.due("hush(127, 1)", x.hush(127, 1), 15);
        Due.due("keep(127, 15, 1)", x.keep(127, 15, 1), 1);
        Due.due("keep(127, 10, 0)", x.keep(127, 10, 0), 6);
        Due.due("keep(127, 10, 1)", x.keep(127, 10, 1), 63);
        Due.due("keep(127, 9, 0)", x.keep(127, 9, 0), -1);
        Due.due("lacks(127)", x.lacks(127), 1);
        // a c e g, b d f: none of them has a word for another one
        Due.due("split(127, 0)", x.split(127, 0), 85);
        Due.due("split(127, 1)", x.split(127, 1), 20);
        Due.due("bear(127)", x.bear(127), 20);
        Due.due("ears(1)", x.ears(1), 124);
        Due.due("ears(127)", x.ears(127), 0);
        Due.due("worth(127)", x.worth(127), 6);
        Due.due("voice(11, 0)", x.voice(11, 0), 96);
        Due.due("voice(11, 1)", x.voice(11, 1), 11);
    }

    private static void banks() {
        TalkBridge x = full();
        Due.due("payers(0)", x.payers(0), 126);
        Due.due("payers(1)", x.payers(1), 0);
        Due.due("longest(0)", x.longest(0), 127);
        // sets without neighbours among seven in a row
        Due.due("quiet(0)", x.quiet(0), 33);
        Due.due("within(0, 10)", x.within(0, 10), 33);
        Due.due("within(0, 15)", x.within(0, 15), 126);
        Due.due("within(0, 16)", x.within(0, 16), 127);
        Due.due("rich(0)", x.rich(0), 0);
        Due.due("rich(1)", x.rich(1), -1);
        Due.due("frail(0)", x.frail(0), 0);
    }

    private static void told() {
        TalkBridge x = full();
        Due.due("fits", x.fits(0), 127);
        Due.due("sure(6, 0)", x.sure(6, 0), -2);
        Due.due("ask(0, 0)", x.ask(0, 0), 0);
        Due.due("ask(1, 0)", x.ask(1, 0), 64);
        for (int i = 0; i < 30; i++) {
            Due.due("was " + i, x.was(6 - i % 2, true), i);
        }
        Due.due("was", x.was(6, true), -1);
        Due.due("fits", x.fits(0), 32);
        Due.due("sure(6, 0)", x.sure(6, 0), 1);
        Due.due("sure(4, 0)", x.sure(4, 0), -2);
        Due.due("ask(0, 0)", x.ask(0, 0), 0);
        Due.due("ask(1, 0)", x.ask(1, 0), 16);
        for (int i = 1; i < 30; i += 2) {
            Due.due("untell", x.untell(i), true);
        }
        Due.due("fits", x.fits(0), 64);
    }

    private static void acts() {
        TalkBridge x = full();
        Due.due("one lacks a coin", x.cross(127), -1);
        Due.due("he gets it", x.hand(0, 6, 1), 7);
        Due.due("cross", x.cross(127), 16);
        Due.due("BANKS", x.about(2), 127);
        Due.due("SAID", x.about(3), 4095);
        Due.due("HEARD", x.person(6, 3), 4095);
        Due.due("SEED", x.about(6), 934);
        Due.due("coins: 1, 2 each, 0", x.person(0, 1) * 100 + x.person(5, 1) * 10 + x.person(6, 1), 120);
        Due.due("mute", x.mute(), 127);
        Due.due("again", x.again(11), 127);
        // a; b to f each, and two of these
        Due.due("payers(1)", x.payers(1), 16);
        for (int box = 0; box < 3; box++) {
            Due.due("image", x.image(box), 16);
        }
        for (int i = 0; i < 45; i++) {
            Due.due("hand", x.hand(1 + i % 2, 2 - i % 2, 1), i % 2 == 0 ? 3 : 2);
        }
        for (int i = 0; i < 40; i++) {
            Due.due("undo", x.undo(), true);
        }
        Due.due("undo", x.undo(), false);
        // five were done that are not kept any more
        Due.due("coins of b", x.person(1, 1), 1);
        Due.due("coins of c", x.person(2, 1), 3);
        Due.due("back", x.back(2), 16);
        Due.due("coins of b", x.person(1, 1), 2);
        Due.due("HEARD", x.person(6, 3), 4095);
        Due.due("SAID", x.about(3), 2047);
    }

    /** The fullest RIVER, with some of its PERSONS over, told and kept: the same for both. */
    private static void prepare(Object x) throws ReflectiveOperationException {
        String text = text();
        for (int at = 0; at < 1600; at += 20) {
            Object[] fours = new Object[5];
            for (int i = 0; i < 5; i++) {
                int four = 0;
                for (int j = 0; j < 4; j++) {
                    four = four << 8 | text.charAt(at + 4 * i + j);
                }
                fours[i] = four;
            }
            x.getClass().getMethod("feed", int.class, int.class, int.class, int.class, int.class).invoke(x, fours);
        }
        x.getClass().getMethod("river").invoke(x);
        Method cross = x.getClass().getMethod("cross", int.class);
        cross.invoke(x, 7);
        cross.invoke(x, 1);
        x.getClass().getMethod("undo").invoke(x);
        x.getClass().getMethod("image", int.class).invoke(x, 1);
        x.getClass().getMethod("soonest").invoke(x);
        for (int i = 0; i < 29; i++) {
            x.getClass().getMethod("were", int.class, boolean.class).invoke(x, 1 + i / 15, true);
        }
    }

    /** An object has 512 calls: some hundred make it full. */
    private static void sweep(Method method) throws ReflectiveOperationException {
        Method twin = Model.class.getMethod(method.getName(), method.getParameterTypes());
        int[] edges = method.getParameterCount() > 2 ? FEWER : EDGES;
        int all = 1;
        for (int i = 0; i < method.getParameterCount(); i++) {
            all *= edges.length;
        }
        TalkBridge bridge = null;
        Model model = null;
        for (int number = 0; number < all; number++) {
            if (number % 350 == 0) {
                bridge = new TalkBridge();
                model = new Model();
                prepare(bridge);
                prepare(model);
            }
            Object[] arguments = arguments(method, number, edges);
            Object got = method.invoke(bridge, arguments);
            Object want = twin.invoke(model, arguments);
            Due.due(method.getName() + Arrays.toString(arguments) + " of the fullest answered " + got + ", not " + want + ": alike",
                got.equals(want), true);
        }
    }

    private static Object[] arguments(Method method, int number, int[] edges) {
        Object[] arguments = new Object[method.getParameterCount()];
        int rest = number;
        for (int i = 0; i < arguments.length; i++) {
            int edge = edges[rest % edges.length];
            arguments[i] = method.getParameterTypes()[i] == boolean.class ? (Object) (edge % 2 == 0) : (Object) edge;
            rest /= edges.length;
        }
        return arguments;
    }
}
