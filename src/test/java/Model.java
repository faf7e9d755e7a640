import java.util.ArrayList;
import java.util.Arrays;
import java.util.HashMap;
import java.util.HashSet;
import java.util.List;
import java.util.Map;
import java.util.Set;
import java.util.function.IntPredicate;
import java.util.function.IntToLongFunction;

/**
 * The document a second time, written as plainly as the Java library allows and with nothing
 * taken from TalkBridge, so that runs of calls on both can be held against each other.
 */
public final class Model {
    static final class Fault extends RuntimeException {
        private static final long serialVersionUID = 1;
        final int code;
        final int place;

        Fault(int code, int place) {
            this.code = code;
            this.place = place;
        }
    }

    record Token(char sort, String text, int place) {
        boolean is(String other) {
            return sort != 'n' && text.equals(other);
        }
    }

    record Matter(int of, int to, int words, boolean lie) {
    }

    record Now(List<Integer> coins, Set<Integer> far, Set<Integer> said, List<Set<Integer>> heard, boolean broken,
            int minute, int seed) {
    }

    record Timed(char sort, int value, boolean is, int told, Integer[] untold) {
    }

    interface Tree {
        int value(Map<String, Integer> by);
    }

    static final class Text {
        static final Set<String> OWN = Set.of("person", "pace", "coins", "over", "say", "to", "lie", "bridge", "bears",
            "mends", "room", "long", "toll", "turns", "draw", "or", "and", "not", "steps", "words", "lies", "many",
            "length", "minute");
        static final Set<String> UNITS = Set.of("steps", "words", "lies", "many", "length", "minute");

        final List<Token> tokens = new ArrayList<>();
        int next = 0;
        final List<String> names = new ArrayList<>();
        final List<Integer> paces = new ArrayList<>();
        final List<Integer> coins = new ArrayList<>();
        final Set<Integer> far = new HashSet<>();
        final List<Matter> matters = new ArrayList<>();
        final Set<String> once = new HashSet<>();
        int steps = 3;
        int bears = 20;
        int mends = 10;
        int room = 7;
        int turns = 0;
        int draw = 0;
        int units = 0;
        int unitsHere = 0;
        Tree length = by -> by.get("steps") + by.get("words") - by.get("lies");
        Tree toll = by -> 0;

        Text(String text) {
            split(text);
            while (peek().sort != 'e') {
                line();
            }
        }

        /** A token of sort '?' is none: it is met as a fault when it is reached. */
        private void split(String text) {
            int at = 0;
            while (at < text.length()) {
                String rest = text.substring(at);
                String run = rest.replaceAll("(?s)^([a-z]+|[0-9]+|.).*$", "$1");
                char c = run.charAt(0);
                if (c >= 'a' && c <= 'z') {
                    tokens.add(new Token(run.length() <= 8 ? 'w' : '?', run, at));
                } else if (c >= '0' && c <= '9') {
                    boolean good = run.length() <= 4 && !rest.substring(run.length()).matches("(?s)[a-z].*");
                    tokens.add(new Token(good ? 'n' : '?', run, at));
                } else if (c != ' ' && c != '\n') {
                    tokens.add(new Token(";()<>=+-*/%".indexOf(c) >= 0 ? 's' : '?', run, at));
                }
                at += run.length();
            }
            tokens.add(new Token('e', "", text.length()));
        }

        private Token peek() {
            return tokens.get(next);
        }

        private Token take() {
            Token token = peek();
            if (token.sort == '?') {
                throw new Fault(1, token.place);
            }
            next++;
            return token;
        }

        private void want(String text) {
            Token token = take();
            if (!token.is(text)) {
                throw new Fault(2, token.place);
            }
        }

        private boolean may(String text) {
            if (peek().sort != '?' && peek().is(text)) {
                next++;
                return true;
            }
            return false;
        }

        private int number(int least, int most) {
            Token token = take();
            if (token.sort != 'n') {
                throw new Fault(2, token.place);
            }
            int number = Integer.parseInt(token.text);
            if (number < least || number > most) {
                throw new Fault(4, token.place);
            }
            return number;
        }

        private Token name() {
            Token token = take();
            if (token.sort != 'w' || OWN.contains(token.text)) {
                throw new Fault(2, token.place);
            }
            return token;
        }

        private int known() {
            Token token = name();
            if (!names.contains(token.text)) {
                throw new Fault(5, token.place);
            }
            return names.indexOf(token.text);
        }

        private void line() {
            Token first = take();
            if (first.sort != 'w') {
                throw new Fault(2, first.place);
            }
            boolean many = first.text.equals("person") && names.size() == 7 || first.text.equals("say") && matters.size() == 12;
            if (many || once.contains(first.text)) {
                throw new Fault(2, first.place);
            }
            switch (first.text) {
                case "person" -> person();
                case "say" -> say();
                case "bridge" -> bridge();
                case "long" -> length = formula();
                case "toll" -> toll = formula();
                case "turns" -> turns = number(0, 100);
                case "draw" -> draw = number(0, 999);
                default -> throw new Fault(2, first.place);
            }
            if (!first.text.equals("person") && !first.text.equals("say")) {
                once.add(first.text);
            }
            want(";");
        }

        private void person() {
            Token name = name();
            if (names.contains(name.text)) {
                throw new Fault(3, name.place);
            }
            want("pace");
            paces.add(number(1, 9));
            coins.add(may("coins") ? number(0, 999) : 0);
            if (may("over")) {
                far.add(names.size());
            }
            names.add(name.text);
        }

        private void say() {
            int of = known();
            want("to");
            int place = peek().place;
            int to = known();
            if (of == to) {
                throw new Fault(3, place);
            }
            int words = number(0, 99);
            matters.add(new Matter(of, to, words, may("lie")));
        }

        private void bridge() {
            steps = number(1, 99);
            bears = may("bears") ? number(0, 999) : bears;
            mends = may("mends") ? number(1, 60) : mends;
            room = may("room") ? number(1, 7) : room;
        }

        private Tree formula() {
            unitsHere = 0;
            Tree tree = either(0);
            units += unitsHere;
            return tree;
        }

        private Tree either(int within) {
            Tree left = both(within);
            while (may("or")) {
                Tree a = left;
                Tree b = both(within);
                left = by -> a.value(by) != 0 | b.value(by) != 0 ? 1 : 0;
            }
            return left;
        }

        private Tree both(int within) {
            Tree left = one(within);
            while (may("and")) {
                Tree a = left;
                Tree b = one(within);
                left = by -> a.value(by) != 0 & b.value(by) != 0 ? 1 : 0;
            }
            return left;
        }

        private Tree one(int within) {
            int place = peek().place;
            if (may("not")) {
                if (within > 6) {
                    throw new Fault(2, place);
                }
                Tree a = one(within + 1);
                return by -> a.value(by) == 0 ? 1 : 0;
            }
            Tree a = sum(within);
            if (may("<")) {
                Tree b = sum(within);
                return by -> a.value(by) < b.value(by) ? 1 : 0;
            }
            if (may(">")) {
                Tree b = sum(within);
                return by -> a.value(by) > b.value(by) ? 1 : 0;
            }
            if (may("=")) {
                Tree b = sum(within);
                return by -> a.value(by) == b.value(by) ? 1 : 0;
            }
            return a;
        }

        private Tree sum(int within) {
            Tree left = term(within);
            while (true) {
                Tree a = left;
                if (may("+")) {
                    Tree b = term(within);
                    left = by -> a.value(by) + b.value(by);
                } else if (may("-")) {
                    Tree b = term(within);
                    left = by -> a.value(by) - b.value(by);
                } else {
                    return left;
                }
            }
        }

        private Tree term(int within) {
            Tree left = unit(within);
            while (true) {
                Tree a = left;
                if (may("*")) {
                    Tree b = unit(within);
                    left = by -> a.value(by) * b.value(by);
                } else if (may("/")) {
                    Tree b = unit(within);
                    left = by -> b.value(by) == 0 ? 0 : a.value(by) / b.value(by);
                } else if (may("%")) {
                    Tree b = unit(within);
                    left = by -> b.value(by) == 0 ? 0 : a.value(by) % b.value(by);
                } else {
                    return left;
                }
            }
        }

        private Tree unit(int within) {
            Token token = take();
            if (unitsHere == 30 || token.is("(") && within > 6) {
                throw new Fault(2, token.place);
            }
            unitsHere++;
            if (token.sort == 'n') {
                int number = Integer.parseInt(token.text);
                return by -> number;
            }
            if (token.is("(")) {
                Tree inner = either(within + 1);
                want(")");
                return inner;
            }
            if (!UNITS.contains(token.text)) {
                throw new Fault(2, token.place);
            }
            return by -> by.get(token.text);
        }
    }

    private String tape = "";
    private Text text = new Text("");
    private int fault = 0;
    private int faultPlace = -1;
    private Now now = first();
    private final List<Now> past = new ArrayList<>();
    private final List<Now> future = new ArrayList<>();
    private final Now[] boxes = new Now[3];
    private List<Integer> lying = List.of();
    private final List<Timed> timed = new ArrayList<>();
    private int clock = 0;

    private Now first() {
        List<Set<Integer>> heard = new ArrayList<>();
        text.matters.forEach(m -> heard.add(Set.of()));
        return new Now(List.copyOf(text.coins), Set.copyOf(text.far), Set.of(), heard, false, 0, text.draw);
    }

    public int feed(int a, int b, int c, int d, int e) {
        if (tape.length() > 1580) {
            return -1;
        }
        for (int n : new int[] {a, b, c, d, e}) {
            tape += "" + (char) (n >>> 24) + (char) (n >>> 16 & 255) + (char) (n >>> 8 & 255) + (char) (n & 255);
        }
        return tape.length();
    }

    public int end(int n) {
        if (n < 0 || n > tape.length()) {
            return -1;
        }
        tape = tape.substring(0, n);
        return n;
    }

    public int river() {
        try {
            text = new Text(tape);
        } catch (Fault f) {
            fault = f.code;
            faultPlace = f.place;
            return -1;
        }
        fault = 0;
        faultPlace = -1;
        tape = "";
        now = first();
        past.clear();
        future.clear();
        Arrays.fill(boxes, null);
        lying = List.of();
        timed.clear();
        return text.names.size();
    }

    public int fault(int what) {
        return what == 0 ? fault : what == 1 ? faultPlace : -1;
    }

    // ---- sets as bits ----

    private static Set<Integer> set(int bits) {
        Set<Integer> set = new HashSet<>();
        for (int i = 0; i < 32; i++) {
            if ((bits >>> i & 1) == 1) {
                set.add(i);
            }
        }
        return set;
    }

    private static int bits(Set<Integer> set) {
        return set.stream().mapToInt(i -> 1 << i).sum();
    }

    private int persons() {
        return text.names.size();
    }

    private Set<Integer> onBank(int bank) {
        Set<Integer> set = new HashSet<>();
        for (int p = 0; p < persons(); p++) {
            if (now.far.contains(p) == (bank == 1)) {
                set.add(p);
            }
        }
        return set;
    }

    private boolean isGroup(int bits) {
        Set<Integer> set = set(bits);
        return !set.isEmpty() && set.size() <= text.room && (onBank(0).containsAll(set) || onBank(1).containsAll(set));
    }

    private List<Integer> groupsOn(int bank) {
        List<Integer> groups = new ArrayList<>();
        for (int bits = 1; bits < 128; bits++) {
            if (isGroup(bits) && onBank(bank).containsAll(set(bits))) {
                groups.add(bits);
            }
        }
        return groups;
    }

    // ---- what a GROUP is like ----

    private Set<Integer> talk(Set<Integer> group) {
        Set<Integer> talk = new HashSet<>();
        for (int m = 0; m < text.matters.size(); m++) {
            Matter matter = text.matters.get(m);
            if (!now.said.contains(m) && group.contains(matter.of) && group.contains(matter.to)) {
                talk.add(m);
            }
        }
        return talk;
    }

    private int words(Set<Integer> talk, boolean lie) {
        return talk.stream().map(text.matters::get).filter(m -> m.lie == lie).mapToInt(Matter::words).sum();
    }

    private int length(Set<Integer> group, Set<Integer> talk, int minute) {
        int length = text.length.value(units(group, talk, 0, minute));
        return length < 1 ? 1 : length > 9999 ? 9999 : length;
    }

    private Map<String, Integer> units(Set<Integer> group, Set<Integer> talk, int length, int minute) {
        Map<String, Integer> by = new HashMap<>();
        by.put("steps", text.steps);
        by.put("words", words(talk, false));
        by.put("lies", words(talk, true));
        by.put("many", group.size());
        by.put("length", length);
        by.put("minute", minute);
        return by;
    }

    private int time(Set<Integer> group, Set<Integer> talk, int minute) {
        int pace = group.stream().mapToInt(text.paces::get).min().getAsInt();
        return (int) Math.ceil(length(group, talk, minute) / (double) pace);
    }

    private int time(int bits) {
        return time(set(bits), talk(set(bits)), now.minute);
    }

    private int toll(Set<Integer> group) {
        Set<Integer> talk = talk(group);
        int toll = text.toll.value(units(group, talk, length(group, talk, now.minute), now.minute));
        return toll < 0 ? 0 : toll > 999 ? 999 : toll;
    }

    private boolean breaks(int bits) {
        return words(talk(set(bits)), true) > text.bears;
    }

    // ---- the calls ----

    public int person(int person, int what) {
        if (person < 0 || person >= persons()) {
            return -1;
        }
        Set<Integer> matters = new HashSet<>();
        for (int m = 0; m < text.matters.size(); m++) {
            if (what == 3 ? now.heard.get(m).contains(person) : hasOpen(person, m)) {
                matters.add(m);
            }
        }
        return switch (what) {
            case 0 -> text.paces.get(person);
            case 1 -> now.coins.get(person);
            case 2 -> now.far.contains(person) ? 1 : 0;
            case 3, 4 -> bits(matters);
            default -> -1;
        };
    }

    private boolean hasOpen(int person, int m) {
        Matter matter = text.matters.get(m);
        return !now.said.contains(m) && (matter.of == person || matter.to == person);
    }

    public int matter(int m, int what) {
        if (m < 0 || m >= text.matters.size()) {
            return -1;
        }
        Matter matter = text.matters.get(m);
        Set<Integer> secret = new HashSet<>(now.heard.get(m));
        secret.add(matter.of);
        secret.add(matter.to);
        int[] answers = {matter.of, matter.to, matter.words, matter.lie ? 1 : 0, now.said.contains(m) ? 1 : 0, bits(secret)};
        return what < 0 || what > 5 ? -1 : answers[what];
    }

    public int group(int bits, int what) {
        if (!isGroup(bits)) {
            return -1;
        }
        Set<Integer> group = set(bits);
        Set<Integer> talk = talk(group);
        return switch (what) {
            case 0 -> words(talk, false);
            case 1 -> words(talk, true);
            case 2 -> length(group, talk, now.minute);
            case 3 -> time(bits);
            case 4 -> toll(group);
            case 5 -> bits(talk);
            default -> -1;
        };
    }

    private void act(Now then) {
        past.add(now);
        if (past.size() > 40) {
            past.remove(0);
        }
        future.clear();
        now = then;
    }

    public int cross(int bits) {
        if (!isGroup(bits) || now.broken || lacks(bits) > 0) {
            return -1;
        }
        Set<Integer> group = set(bits);
        int toll = toll(group);
        int minutes = time(bits);
        List<Integer> coins = new ArrayList<>(now.coins);
        group.forEach(p -> coins.set(p, coins.get(p) - toll));
        Set<Integer> said = new HashSet<>(now.said);
        List<Set<Integer>> heard = new ArrayList<>();
        for (int m = 0; m < text.matters.size(); m++) {
            Set<Integer> hearing = new HashSet<>(now.heard.get(m));
            if (talk(group).contains(m)) {
                said.add(m);
                hearing.addAll(group);
            }
            heard.add(hearing);
        }
        if (breaks(bits)) {
            act(new Now(coins, now.far, said, heard, true, now.minute, now.seed));
            return -2;
        }
        int seed = (137 * now.seed + 71) % 1000;
        boolean turned = seed % 100 < text.turns;
        Set<Integer> far = new HashSet<>(now.far);
        if (!turned && now.far.containsAll(group)) {
            far.removeAll(group);
        } else if (!turned) {
            far.addAll(group);
        }
        act(new Now(coins, far, said, heard, false, now.minute + minutes, seed));
        return turned ? 0 : minutes;
    }

    public int mend() {
        if (!now.broken) {
            return -1;
        }
        act(new Now(now.coins, now.far, now.said, now.heard, false, now.minute + text.mends, now.seed));
        return now.minute;
    }

    public int hand(int person, int other, int many) {
        boolean there = person >= 0 && other >= 0 && person < persons() && other < persons();
        if (!there || person == other || now.far.contains(person) != now.far.contains(other)) {
            return -1;
        }
        List<Integer> coins = new ArrayList<>(now.coins);
        if (many < 1 || many > coins.get(person) || coins.get(other) + many > 999) {
            return -1;
        }
        coins.set(person, coins.get(person) - many);
        coins.set(other, coins.get(other) + many);
        act(new Now(coins, now.far, now.said, now.heard, now.broken, now.minute, now.seed));
        return coins.get(other);
    }

    public int again(int m) {
        if (!now.said.contains(m)) {
            return -1;
        }
        Set<Integer> said = new HashSet<>(now.said);
        said.remove(m);
        act(new Now(now.coins, now.far, said, now.heard, now.broken, now.minute, now.seed));
        return bits(now.heard.get(m));
    }

    public boolean undo() {
        if (past.isEmpty()) {
            return false;
        }
        future.add(now);
        now = past.remove(past.size() - 1);
        return true;
    }

    public boolean redo() {
        if (future.isEmpty()) {
            return false;
        }
        past.add(now);
        now = future.remove(future.size() - 1);
        return true;
    }

    /** Every list of group numbers of those on the near BANK, good or not: each PERSON in any of 7. */
    private List<int[]> partings() {
        List<int[]> all = new ArrayList<>();
        all.add(new int[0]);
        for (int p = 0; p < persons(); p++) {
            List<int[]> longer = new ArrayList<>();
            for (int[] begun : all) {
                int fresh = Arrays.stream(begun).max().orElse(-1) + 1;
                for (int g = 0; g <= Math.max(fresh, 0); g++) {
                    int[] one = Arrays.copyOf(begun, p + 1);
                    one[p] = now.far.contains(p) ? -1 : g;
                    longer.add(one);
                    if (now.far.contains(p)) {
                        break;
                    }
                }
            }
            all = longer;
        }
        return all;
    }

    private static int[] partsOf(int[] parting) {
        int[] parts = new int[Arrays.stream(parting).max().orElse(-1) + 1];
        for (int p = 0; p < parting.length; p++) {
            if (parting[p] >= 0) {
                parts[parting[p]] |= 1 << p;
            }
        }
        return parts;
    }

    private boolean isWay(int[] parts) {
        return Arrays.stream(parts).allMatch(bits -> isGroup(bits) && !breaks(bits));
    }

    private int minutesOf(int[] parts) {
        return Arrays.stream(parts).map(this::time).sum();
    }

    public int soonest() {
        int[] best = null;
        for (int[] parting : partings()) {
            int[] parts = partsOf(parting);
            Set<Integer> said = new HashSet<>();
            Arrays.stream(parts).forEach(bits -> said.addAll(talk(set(bits))));
            if (!isWay(parts) || !said.equals(talk(onBank(0)))) {
                continue;
            }
            int order = best == null ? -1 : Integer.compare(minutesOf(parts), minutesOf(partsOf(best)));
            if (order < 0 || order == 0 && Arrays.compare(parting, best) < 0) {
                best = parting;
            }
        }
        lying = best == null ? List.of() : Arrays.stream(best).boxed().toList();
        return best == null ? -1 : minutesOf(partsOf(best));
    }

    public int silent(int what) {
        int minutes = Integer.MAX_VALUE;
        int groups = Integer.MAX_VALUE;
        for (int[] parting : partings()) {
            int[] parts = partsOf(parting);
            if (isWay(parts)) {
                int sum = minutesOf(parts);
                groups = sum < minutes ? parts.length : sum == minutes ? Math.min(groups, parts.length) : groups;
                minutes = Math.min(minutes, sum);
            }
        }
        return what == 0 ? minutes : what == 1 ? groups : -1;
    }

    /** By rounds: what each place costs with one crossing more, until a round betters nothing. */
    public int lantern(int what) {
        Set<Integer> start = onBank(0);
        Map<Integer, Integer> times = new HashMap<>();
        for (int bits = 1; bits < 1 << persons(); bits++) {
            if (Integer.bitCount(bits) <= text.room && !breaks(bits)) {
                times.put(bits, time(bits));
            }
        }
        Map<Integer, Integer> layer = Map.of(bits(start), 0);
        int best = start.isEmpty() ? 0 : Integer.MAX_VALUE;
        int fewest = 0;
        int all = (1 << persons()) - 1;
        for (int crossing = 1; crossing < 300; crossing++) {
            Map<Integer, Integer> next = new HashMap<>();
            for (Map.Entry<Integer, Integer> at : layer.entrySet()) {
                int here = crossing % 2 == 1 ? at.getKey() : all & ~at.getKey();
                for (Map.Entry<Integer, Integer> group : times.entrySet()) {
                    if ((group.getKey() & ~here) == 0) {
                        next.merge(at.getKey() ^ group.getKey(), at.getValue() + group.getValue(), Math::min);
                    }
                }
            }
            for (Map.Entry<Integer, Integer> at : next.entrySet()) {
                if ((at.getKey() & bits(start)) == 0 && at.getValue() < best) {
                    best = at.getValue();
                    fewest = crossing;
                }
            }
            int bound = best;
            next.values().removeIf(cost -> cost >= bound);
            if (next.isEmpty()) {
                break;
            }
            layer = next;
        }
        if (best == Integer.MAX_VALUE) {
            return -1;
        }
        return what == 0 ? best : what == 1 ? fewest : -1;
    }

    /** The first of the least, among those of 0 .. most - 1 that count; -1 if none does. */
    private static int leastOf(int most, IntPredicate counts, IntToLongFunction weight) {
        int best = -1;
        for (int i = most - 1; i >= 0; i--) {
            if (counts.test(i) && (best < 0 || weight.applyAsLong(i) <= weight.applyAsLong(best))) {
                best = i;
            }
        }
        return best;
    }

    private static int pick(int what, int best, IntToLongFunction weight) {
        return best < 0 ? -1 : what == 0 ? best : what == 1 ? (int) weight.applyAsLong(best) : -1;
    }

    public int partner(int person, int what) {
        if (person < 0 || person >= persons()) {
            return -1;
        }
        IntToLongFunction weight = other -> time(1 << person | 1 << other);
        return pick(what, leastOf(persons(), o -> o != person && isGroup(1 << person | 1 << o), weight), weight);
    }

    private Set<Integer> without(Set<Integer> set, Set<Integer> taken) {
        Set<Integer> rest = new HashSet<>(set);
        rest.removeAll(taken);
        return rest;
    }

    public int hush(int bits, int what) {
        if (!isGroup(bits)) {
            return -1;
        }
        Set<Integer> talk = talk(set(bits));
        IntToLongFunction weight = m -> time(set(bits), without(talk, Set.of(m)), now.minute);
        return pick(what, leastOf(12, talk::contains, weight), weight);
    }

    public int keep(int bits, int minutes, int what) {
        if (!isGroup(bits) || minutes < 0 || minutes > 9999) {
            return -1;
        }
        Set<Integer> talk = talk(set(bits));
        int best = leastOf(4096, kept -> talk.containsAll(set(kept))
            && time(set(bits), without(talk, set(kept)), now.minute) <= minutes, Integer::bitCount);
        return best < 0 ? -1 : what == 0 ? Integer.bitCount(best) : what == 1 ? best : -1;
    }

    public int lacks(int bits) {
        if (!isGroup(bits)) {
            return -1;
        }
        int toll = toll(set(bits));
        return set(bits).stream().mapToInt(p -> toll - now.coins.get(p)).filter(lack -> lack > 0).sum();
    }

    public int friends(int person) {
        if (person < 0 || person >= persons()) {
            return -1;
        }
        Set<Integer> friends = new HashSet<>();
        for (int m = 0; m < text.matters.size(); m++) {
            if (hasOpen(person, m)) {
                Matter matter = text.matters.get(m);
                friends.add(matter.of == person ? matter.to : matter.of);
            }
        }
        return bits(friends);
    }

    public int split(int bits, int what) {
        if (!isGroup(bits)) {
            return -1;
        }
        int first = Integer.numberOfTrailingZeros(bits);
        IntToLongFunction weight = part -> time(part) + time(bits & ~part);
        IntPredicate counts = part -> part > 0 && part != bits && (part & ~bits) == 0 && set(part).contains(first);
        return pick(what, leastOf(128, counts, weight), weight);
    }

    public int bear(int bits) {
        return !isGroup(bits) || breaks(bits) ? -1 : text.bears - words(talk(set(bits)), true);
    }

    public int ears(int bits) {
        if (!isGroup(bits)) {
            return -1;
        }
        Set<Integer> ears = new HashSet<>();
        for (int p = 0; p < persons(); p++) {
            if (!set(bits).contains(p) && isGroup(bits | 1 << p) && time(bits | 1 << p) <= time(bits)) {
                ears.add(p);
            }
        }
        return bits(ears);
    }

    public int worth(int bits) {
        return isGroup(bits) ? time(bits) - time(set(bits), Set.of(), now.minute) : -100000;
    }

    private int count(int bank, IntPredicate counts) {
        return bank != 0 && bank != 1 ? -1 : (int) groupsOn(bank).stream().filter(counts::test).count();
    }

    public int payers(int bank) {
        return count(bank, bits -> set(bits).stream().allMatch(p -> now.coins.get(p) >= toll(set(bits))));
    }

    public int longest(int bank) {
        if (bank != 0 && bank != 1) {
            return -1;
        }
        List<Integer> groups = groupsOn(bank);
        return leastOf(128, groups::contains, bits -> -length(set(bits), talk(set(bits)), now.minute));
    }

    public int quiet(int bank) {
        return count(bank, bits -> talk(set(bits)).isEmpty());
    }

    public int voice(int m, int what) {
        return pick(what, leastOf(128, bits -> isGroup(bits) && talk(set(bits)).contains(m), this::time), this::time);
    }

    public int rich(int bank) {
        if (bank != 0 && bank != 1) {
            return -1;
        }
        return leastOf(persons(), p -> onBank(bank).contains(p), p -> -now.coins.get(p));
    }

    public int frail(int bank) {
        return count(bank, this::breaks);
    }

    public int within(int bank, int minutes) {
        return minutes < 0 || minutes > 9999 ? -1 : count(bank, bits -> time(bits) <= minutes);
    }

    private int openWords(int person) {
        int words = 0;
        for (int m = 0; m < text.matters.size(); m++) {
            words += hasOpen(person, m) ? text.matters.get(m).words : 0;
        }
        return words;
    }

    public int talker() {
        return leastOf(persons(), p -> true, p -> -openWords(p));
    }

    public int mute() {
        Set<Integer> mute = new HashSet<>();
        for (int p = 0; p < persons(); p++) {
            if (friends(p) == 0) {
                mute.add(p);
            }
        }
        return bits(mute);
    }

    public int apart() {
        Set<Integer> apart = new HashSet<>();
        for (int m = 0; m < text.matters.size(); m++) {
            Matter matter = text.matters.get(m);
            if (!now.said.contains(m) && now.far.contains(matter.of) != now.far.contains(matter.to)) {
                apart.add(m);
            }
        }
        return bits(apart);
    }

    public int knowing() {
        Set<Integer> knowing = new HashSet<>();
        for (int p = 0; p < persons(); p++) {
            int person = p;
            if (now.said.stream().allMatch(m -> now.heard.get(m).contains(person))) {
                knowing.add(p);
            }
        }
        return bits(knowing);
    }

    public int single() {
        int minutes = 0;
        for (int p = 0; p < persons(); p++) {
            if (!now.far.contains(p)) {
                minutes += time(Set.of(p), Set.of(), now.minute + minutes);
            }
        }
        return minutes;
    }

    public int odds(int n, int part) {
        if (n < 0 || n > 4 || part != 0 && part != 1) {
            return -1;
        }
        java.math.BigInteger upper = java.math.BigInteger.valueOf(100 - text.turns).pow(n);
        java.math.BigInteger lower = java.math.BigInteger.valueOf(100).pow(n);
        return (part == 0 ? upper : lower).divide(upper.gcd(lower)).intValueExact();
    }

    public int lies(int i) {
        return i < 0 || i >= lying.size() ? -2 : lying.get(i);
    }

    private int tell(char sort, int value, boolean is, boolean can) {
        if (!can || timed.size() == 30) {
            return -1;
        }
        timed.add(new Timed(sort, value, is, clock, new Integer[1]));
        return timed.size() - 1;
    }

    public int took(int minutes, boolean is) {
        return tell('t', minutes, is, minutes >= 1 && minutes <= 9999);
    }

    public int was(int person, boolean is) {
        return tell('p', person, is, person >= 0 && person < persons());
    }

    public int were(int many, boolean is) {
        return tell('m', many, is, many >= 1 && many <= 7);
    }

    public boolean untell(int i) {
        if (i < 0 || i >= timed.size() || timed.get(i).untold[0] != null) {
            return false;
        }
        timed.get(i).untold[0] = clock;
        return true;
    }

    public int later(int by) {
        if (by < 0 || by > 1000 || clock + by > 100000) {
            return -1;
        }
        clock += by;
        return clock;
    }

    private List<Integer> fitting(int k) {
        return groupsOn(0).stream().filter(bits -> timed.stream().allMatch(t -> {
            boolean counts = t.told <= k && (t.untold[0] == null || t.untold[0] > k);
            boolean so = t.sort == 't' ? time(bits) >= t.value
                : t.sort == 'p' ? set(bits).contains(t.value) : set(bits).size() >= t.value;
            return !counts || so == t.is;
        })).toList();
    }

    public int fits(int k) {
        return fitting(k).size();
    }

    public int sure(int person, int k) {
        List<Integer> fitting = fitting(k);
        long in = fitting.stream().filter(bits -> set(bits).contains(person)).count();
        if (fitting.isEmpty() || person < 0 || person >= persons()) {
            return -1;
        }
        return in == fitting.size() ? 1 : in == 0 ? 0 : -2;
    }

    public int ask(int what, int k) {
        List<Integer> fitting = fitting(k);
        if (fitting.isEmpty()) {
            return -1;
        }
        IntToLongFunction weight = p -> {
            long in = fitting.stream().filter(bits -> set(bits).contains(p)).count();
            return Math.max(in, fitting.size() - in);
        };
        return pick(what, leastOf(persons(), p -> true, weight), weight);
    }

    public int image(int box) {
        if (box < 0 || box > 2) {
            return -1;
        }
        boxes[box] = now;
        return now.minute;
    }

    public int back(int box) {
        if (box < 0 || box > 2 || boxes[box] == null) {
            return -1;
        }
        now = boxes[box];
        past.clear();
        future.clear();
        return now.minute;
    }

    public int about(int what) {
        int[] answers = {persons(), text.matters.size(), bits(now.far), bits(now.said), now.broken ? 1 : 0, now.minute,
            now.seed, past.size(), future.size(), timed.size(), clock, tape.length(), text.units, lying.size(), text.steps,
            text.bears, text.room};
        return what < 0 || what > 16 ? -1 : answers[what];
    }
}
