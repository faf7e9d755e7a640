import java.util.Random;
import java.util.regex.Matcher;
import java.util.regex.Pattern;

/** Texts that tell a RIVER, by a source of numbers, with something spoilt in them or not. */
final class Texts {
    private static final String[] NAMES = {"a", "bob", "cidabcde", "d", "eve", "fa", "g", "h"};
    private static final String[] NUMBERS = {"0", "8", "10", "60", "61", "99", "100", "101", "999", "1000", "0007", "12345"};
    private static final String[] PIECES = {";", "(", ")", "not ", " or ", " and ", "person ", "say ", "7", "12345", "1a", "A",
        "abcdefghi", " lie", " over", "<", "%", " steps", "bridge 3;", "0", " bob", "toll 1;", "turns 5;"};

    private Texts() {
    }

    static String any(Random random, boolean spoilt) {
        StringBuilder text = new StringBuilder();
        int persons = random.nextInt(10) == 0 ? random.nextInt(2) : 2 + random.nextInt(6);
        for (int i = 0; i < persons; i++) {
            text.append("person ").append(NAMES[i]).append(" pace ").append(1 + random.nextInt(random.nextInt(2) == 0 ? 3 : 9));
            text.append(random.nextInt(4) == 0 ? "" : " coins " + random.nextInt(random.nextInt(4) == 0 ? 1000 : 40));
            text.append(random.nextInt(4) == 0 ? " over;" : ";\n");
        }
        int matters = persons < 2 ? 0 : random.nextInt(13);
        for (int i = 0; i < matters; i++) {
            int of = random.nextInt(persons);
            int to = (of + 1 + random.nextInt(persons - 1)) % persons;
            text.append("say ").append(NAMES[of]).append(" to ").append(NAMES[to]).append(' ');
            text.append(random.nextInt(random.nextInt(4) == 0 ? 100 : 12)).append(random.nextInt(3) == 0 ? " lie;" : ";");
        }
        if (random.nextInt(4) != 0) {
            text.append("bridge ").append(1 + random.nextInt(random.nextInt(3) == 0 ? 99 : 12));
            text.append(random.nextInt(2) == 0 ? "" : " bears " + random.nextInt(25));
            text.append(random.nextInt(2) == 0 ? "" : " mends " + (1 + random.nextInt(60)));
            text.append(random.nextInt(2) == 0 ? "" : " room " + (1 + random.nextInt(7))).append(';');
        }
        if (random.nextInt(2) == 0) {
            text.append("long ").append(either(random, random.nextInt(4))).append(';');
        }
        if (random.nextInt(2) == 0) {
            text.append("toll ").append(random.nextInt(2) == 0 ? "length % 7 + many" : either(random, 2)).append(';');
        }
        text.append(random.nextInt(2) == 0 ? "" : "turns " + random.nextInt(random.nextInt(3) == 0 ? 101 : 40) + ";");
        text.append(random.nextInt(3) == 0 ? "" : "draw " + random.nextInt(1000) + ";");
        if (spoilt) {
            for (int i = random.nextInt(2); i >= 0; i--) {
                spoil(random, text);
            }
        }
        if (text.length() > 1600) {
            text.setLength(1600);
        }
        return text.toString();
    }

    private static void spoil(Random random, StringBuilder text) {
        int at = random.nextInt(text.length() + 1);
        int size = Math.min(random.nextInt(4), text.length() - at);
        switch (random.nextInt(6)) {
            case 0 -> text.delete(at, at + size);
            case 1 -> text.insert(at, PIECES[random.nextInt(PIECES.length)]);
            case 2 -> text.replace(at, at + size, String.valueOf((char) random.nextInt(256)));
            case 3 -> text.append(PIECES[random.nextInt(PIECES.length)]);
            case 4 -> exchange(text, at, "[0-9]+", NUMBERS[random.nextInt(NUMBERS.length)]);
            default -> exchange(text, at, "\\b(a|bob|d|eve|fa)\\b", NAMES[random.nextInt(NAMES.length)]);
        }
    }

    /** The first piece like that behind a place becomes another. */
    private static void exchange(StringBuilder text, int at, String like, String by) {
        Matcher matcher = Pattern.compile(like).matcher(text);
        if (matcher.find(at)) {
            text.replace(matcher.start(), matcher.end(), by);
        }
    }

    private static String either(Random random, int depth) {
        String text = both(random, depth);
        return random.nextInt(6) == 0 ? text + " or " + both(random, depth) : text;
    }

    private static String both(Random random, int depth) {
        String text = one(random, depth);
        return random.nextInt(6) == 0 ? text + " and " + one(random, depth) : text;
    }

    private static String one(Random random, int depth) {
        if (random.nextInt(8) == 0) {
            return "not " + one(random, depth);
        }
        String text = sum(random, depth);
        return random.nextInt(6) == 0 ? text + "<>=".charAt(random.nextInt(3)) + sum(random, depth) : text;
    }

    private static String sum(Random random, int depth) {
        String text = term(random, depth);
        for (int i = random.nextInt(3); i > 0; i--) {
            text += "+-".charAt(random.nextInt(2)) + term(random, depth);
        }
        return text;
    }

    private static String term(Random random, int depth) {
        String text = unit(random, depth);
        for (int i = random.nextInt(5) / 3; i > 0; i--) {
            text += "*/%".charAt(random.nextInt(3)) + unit(random, depth);
        }
        return text;
    }

    private static String unit(Random random, int depth) {
        if (depth > 0 && random.nextInt(3) == 0) {
            return "(" + either(random, depth - 1) + ")";
        }
        String[] units = {"steps", "words", "lies", "many", "length", "minute", "words", "steps", "minute"};
        return random.nextInt(4) == 0 ? String.valueOf(random.nextInt(random.nextInt(5) == 0 ? 10000 : 20))
            : units[random.nextInt(units.length)];
    }
}
