import java.util.Arrays;

/**
 * A bridge that is as long as the talk of those who cross it.
 * DOC.md tells what each public method promises; the words in capitals there are its terms.
 */
public final class TalkBridge {
    public static final int NONE = -1;

    private static final int NO_GROUP_WORTH = -100000;
    private static final int BREAKS = -2;
    private static final int NOTHING_LIES = -2;
    private static final int SOME_ALONE = -2;

    private static final int TAPE_MOST = 1600;
    private static final int FEED_BYTES = 20;
    private static final int PERSONS_MOST = 7;
    private static final int MATTERS_MOST = 12;
    private static final int SETS = 1 << PERSONS_MOST;
    private static final int COINS_MOST = 999;
    private static final int LENGTH_MOST = 9999;
    private static final int MINUTES_MOST = 9999;
    private static final int TOLL_MOST = 999;
    private static final int TURNS_OF = 100;
    private static final int SEED_OF = 1000;
    private static final int ODDS_MOST = 4;
    private static final int BOXES = 3;

    private static final int SORT_PAYING = 0;
    private static final int SORT_QUIET = 1;
    private static final int SORT_FRAIL = 2;
    private static final int SORT_WITHIN = 3;

    private final Reader reader = new Reader();
    private final Scene scene = new Scene();
    private final Acts acts = new Acts();
    private final Ways ways = new Ways();
    private final Lantern light = new Lantern();
    private final Telling telling = new Telling();
    private final int[] boxes = new int[BOXES * Scene.ROW];
    private final int[] fitting = new int[PERSONS_MOST];
    private River spare = new River();
    private int boxesFull;

    public TalkBridge() {
    }

    // ---- the text ----

    public int feed(int a, int b, int c, int d, int e) {
        if (reader.tape.length + FEED_BYTES > TAPE_MOST) {
            return NONE;
        }
        reader.tape.put(a);
        reader.tape.put(b);
        reader.tape.put(c);
        reader.tape.put(d);
        reader.tape.put(e);
        return reader.tape.length;
    }

    public int end(int n) {
        if (n < 0 || n > reader.tape.length) {
            return NONE;
        }
        reader.tape.length = n;
        return n;
    }

    public int river() {
        if (!reader.reads(spare)) {
            return NONE;
        }
        River before = scene.plan;
        scene.begin(spare);
        spare = before;
        reader.tape.length = 0;
        acts.restart(scene);
        telling.clear();
        ways.lying = 0;
        boxesFull = 0;
        return scene.plan.persons;
    }

    public int fault(int what) {
        switch (what) {
            case 0:
                return reader.fault;
            case 1:
                return reader.faultPlace;
            default:
                return NONE;
        }
    }

    // ---- what is ----

    public int person(int person, int what) {
        if (!scene.isPerson(person)) {
            return NONE;
        }
        switch (what) {
            case 0:
                return scene.plan.pace[person];
            case 1:
                return scene.coins[person];
            case 2:
                return scene.far >> person & 1;
            case 3:
                return scene.heardBy(person);
            case 4:
                return scene.unsaidWith(person);
            default:
                return NONE;
        }
    }

    public int matter(int matter, int what) {
        if (!scene.isMatter(matter)) {
            return NONE;
        }
        switch (what) {
            case 0:
                return scene.plan.from[matter];
            case 1:
                return scene.plan.to[matter];
            case 2:
                return scene.plan.size[matter];
            case 3:
                return scene.plan.lying >> matter & 1;
            case 4:
                return scene.said >> matter & 1;
            case 5:
                return scene.heard[matter] | scene.plan.ends(matter);
            default:
                return NONE;
        }
    }

    public int group(int set, int what) {
        if (!scene.isGroup(set)) {
            return NONE;
        }
        int talk = scene.talkOf(set);
        switch (what) {
            case 0:
                return scene.plan.truthsIn(talk);
            case 1:
                return scene.plan.falseIn(talk);
            case 2:
                return scene.lengthOf(set, talk, scene.minute);
            case 3:
                return scene.timeOf(set, talk);
            case 4:
                return scene.tollOf(set);
            case 5:
                return talk;
            default:
                return NONE;
        }
    }

    public int about(int what) {
        switch (what) {
            case 0:
                return scene.plan.persons;
            case 1:
                return scene.plan.matters;
            case 2:
                return scene.far;
            case 3:
                return scene.said;
            case 4:
                return scene.broken ? 1 : 0;
            case 5:
                return scene.minute;
            case 6:
                return scene.seed;
            case 7:
                return acts.now;
            case 8:
                return acts.last - acts.now;
            case 9:
                return telling.count;
            case 10:
                return telling.clock;
            case 11:
                return reader.tape.length;
            default:
                return aboutPlan(what);
        }
    }

    private int aboutPlan(int what) {
        switch (what) {
            case 12:
                return scene.plan.units;
            case 13:
                return ways.lying;
            case 14:
                return scene.plan.steps;
            case 15:
                return scene.plan.bears;
            case 16:
                return scene.plan.room;
            default:
                return NONE;
        }
    }

    // ---- ACTS ----

    public int cross(int set) {
        if (scene.broken || !scene.isGroup(set) || scene.lackOf(set) > 0) {
            return NONE;
        }
        int talk = scene.talkOf(set);
        int minutes = scene.timeOf(set, talk);
        scene.pay(set, scene.tollOf(set));
        scene.hear(set, talk);
        int answer;
        if (scene.plan.falseIn(talk) > scene.plan.bears) {
            scene.broken = true;
            answer = BREAKS;
        } else {
            answer = scene.walk(set, minutes) ? minutes : 0;
        }
        acts.add(scene);
        return answer;
    }

    public int mend() {
        if (!scene.broken) {
            return NONE;
        }
        scene.broken = false;
        scene.minute += scene.plan.mends;
        acts.add(scene);
        return scene.minute;
    }

    public int hand(int person, int other, int coins) {
        if (!scene.isPerson(person) || !scene.isPerson(other) || person == other) {
            return NONE;
        }
        if (!scene.areTogether(person, other) || coins < 1 || coins > scene.coins[person]) {
            return NONE;
        }
        if (scene.coins[other] + coins > COINS_MOST) {
            return NONE;
        }
        scene.coins[person] -= coins;
        scene.coins[other] += coins;
        acts.add(scene);
        return scene.coins[other];
    }

    public int again(int matter) {
        if (!scene.isMatter(matter) || (scene.said >> matter & 1) == 0) {
            return NONE;
        }
        scene.said &= ~(1 << matter);
        acts.add(scene);
        return scene.heard[matter];
    }

    public boolean undo() {
        return acts.step(scene, -1);
    }

    public boolean redo() {
        return acts.step(scene, 1);
    }

    // ---- ways over ----

    public int soonest() {
        ways.find(scene, true);
        ways.layDown();
        return ways.bestMinutes;
    }

    public int silent(int what) {
        if (!isFirstOrSecond(what)) {
            return NONE;
        }
        ways.find(scene, false);
        return what == 0 ? ways.bestMinutes : ways.bestParts;
    }

    public int lantern(int what) {
        if (!isFirstOrSecond(what)) {
            return NONE;
        }
        light.find(scene);
        return what == 0 ? light.minutes : light.crossings;
    }

    public int lies(int i) {
        return i < 0 || i >= ways.lying || i >= ways.lie.length ? NOTHING_LIES : ways.lie[i];
    }

    public int single() {
        int minute = scene.minute;
        for (int person = 0; person < scene.plan.persons; person++) {
            int alone = 1 << person;
            if ((scene.far & alone) == 0) {
                // the minute goes on from one to the next, which is why the order counts
                minute += scene.timeAt(alone, 0, minute);
            }
        }
        return minute - scene.minute;
    }

    // ---- one GROUP ----

    public int partner(int person, int what) {
        if (!scene.isPerson(person) || !isFirstOrSecond(what)) {
            return NONE;
        }
        int best = NONE;
        int least = NONE;
        for (int other = 0; other < scene.plan.persons; other++) {
            int two = 1 << person | 1 << other;
            if (other != person && scene.isGroup(two)) {
                int minutes = scene.timeOf(two, scene.talkOf(two));
                if (best == NONE || minutes < least) {
                    best = other;
                    least = minutes;
                }
            }
        }
        return what == 0 ? best : least;
    }

    public int hush(int set, int what) {
        if (!scene.isGroup(set) || !isFirstOrSecond(what)) {
            return NONE;
        }
        int talk = scene.talkOf(set);
        int best = NONE;
        int least = NONE;
        for (int matter = 0; matter < scene.plan.matters; matter++) {
            if ((talk >> matter & 1) == 1) {
                int minutes = scene.timeOf(set, talk & ~(1 << matter));
                if (best == NONE || minutes < least) {
                    best = matter;
                    least = minutes;
                }
            }
        }
        return what == 0 ? best : least;
    }

    public int keep(int set, int minutes, int what) {
        if (!scene.isGroup(set) || !areMinutes(minutes) || !isFirstOrSecond(what)) {
            return NONE;
        }
        int talk = scene.talkOf(set);
        int best = NONE;
        int fewest = NONE;
        for (int kept = 0; kept <= talk; kept++) {
            // a set of no fewer MATTERS needs no look: sets go up, so of like ones the first stands
            boolean better = best == NONE || Integer.bitCount(kept) < fewest;
            if ((kept & ~talk) == 0 && better && scene.timeOf(set, talk & ~kept) <= minutes) {
                best = kept;
                fewest = Integer.bitCount(kept);
            }
        }
        return what == 0 ? fewest : best;
    }

    public int lacks(int set) {
        return scene.isGroup(set) ? scene.lackOf(set) : NONE;
    }

    public int split(int set, int what) {
        if (!scene.isGroup(set) || !isFirstOrSecond(what)) {
            return NONE;
        }
        int first = set & -set;
        int best = NONE;
        int least = NONE;
        for (int part = 1; part < set; part++) {
            if ((part & ~set) == 0 && (part & first) != 0) {
                int rest = set & ~part;
                int minutes = scene.timeOf(part, scene.talkOf(part)) + scene.timeOf(rest, scene.talkOf(rest));
                if (best == NONE || minutes < least) {
                    best = part;
                    least = minutes;
                }
            }
        }
        return what == 0 ? best : least;
    }

    public int bear(int set) {
        if (!scene.isGroup(set)) {
            return NONE;
        }
        int left = scene.plan.bears - scene.plan.falseIn(scene.talkOf(set));
        return left < 0 ? NONE : left;
    }

    public int ears(int set) {
        if (!scene.isGroup(set)) {
            return NONE;
        }
        int minutes = scene.timeOf(set, scene.talkOf(set));
        int ears = 0;
        for (int person = 0; person < scene.plan.persons; person++) {
            int more = set | 1 << person;
            if (more != set && scene.isGroup(more) && scene.timeOf(more, scene.talkOf(more)) <= minutes) {
                ears |= 1 << person;
            }
        }
        return ears;
    }

    public int worth(int set) {
        if (!scene.isGroup(set)) {
            return NO_GROUP_WORTH;
        }
        return scene.timeOf(set, scene.talkOf(set)) - scene.timeOf(set, 0);
    }

    // ---- all GROUPS, all PERSONS ----

    public int payers(int bank) {
        return howMany(bank, SORT_PAYING, 0);
    }

    public int quiet(int bank) {
        return howMany(bank, SORT_QUIET, 0);
    }

    public int frail(int bank) {
        return howMany(bank, SORT_FRAIL, 0);
    }

    public int within(int bank, int minutes) {
        return areMinutes(minutes) ? howMany(bank, SORT_WITHIN, minutes) : NONE;
    }

    public int longest(int bank) {
        int best = NONE;
        int most = NONE;
        for (int set = 1; set < scene.sets(); set++) {
            if (scene.isGroupOn(set, bank)) {
                int length = scene.lengthOf(set, scene.talkOf(set), scene.minute);
                if (length > most) {
                    best = set;
                    most = length;
                }
            }
        }
        return best;
    }

    public int voice(int matter, int what) {
        if (!scene.isMatter(matter) || !isFirstOrSecond(what)) {
            return NONE;
        }
        int best = NONE;
        int least = NONE;
        for (int set = 1; set < scene.sets(); set++) {
            int talk = scene.isGroup(set) ? scene.talkOf(set) : 0;
            if ((talk >> matter & 1) == 1) {
                int minutes = scene.timeOf(set, talk);
                if (best == NONE || minutes < least) {
                    best = set;
                    least = minutes;
                }
            }
        }
        return what == 0 ? best : least;
    }

    public int rich(int bank) {
        int best = NONE;
        int most = NONE;
        for (int person = 0; person < scene.plan.persons; person++) {
            if ((scene.far >> person & 1) == bank && scene.coins[person] > most) {
                best = person;
                most = scene.coins[person];
            }
        }
        return best;
    }

    public int friends(int person) {
        if (!scene.isPerson(person)) {
            return NONE;
        }
        int friends = 0;
        int matters = scene.unsaidWith(person);
        for (int matter = 0; matter < scene.plan.matters; matter++) {
            if ((matters >> matter & 1) == 1) {
                friends |= scene.plan.ends(matter);
            }
        }
        return friends & ~(1 << person);
    }

    public int talker() {
        int best = NONE;
        int most = NONE;
        for (int person = 0; person < scene.plan.persons; person++) {
            int words = scene.plan.wordsIn(scene.unsaidWith(person));
            if (words > most) {
                best = person;
                most = words;
            }
        }
        return best;
    }

    public int mute() {
        int mute = 0;
        for (int person = 0; person < scene.plan.persons; person++) {
            if (scene.unsaidWith(person) == 0) {
                mute |= 1 << person;
            }
        }
        return mute;
    }

    public int apart() {
        int apart = 0;
        for (int matter = 0; matter < scene.plan.matters; matter++) {
            boolean unsaid = (scene.said >> matter & 1) == 0;
            if (unsaid && Integer.bitCount(scene.plan.ends(matter) & scene.far) == 1) {
                apart |= 1 << matter;
            }
        }
        return apart;
    }

    public int knowing() {
        int knowing = scene.sets() - 1;
        for (int matter = 0; matter < scene.plan.matters; matter++) {
            if ((scene.said >> matter & 1) == 1) {
                knowing &= scene.heard[matter];
            }
        }
        return knowing;
    }

    public int odds(int n, int part) {
        if (n < 0 || n > ODDS_MOST || !isFirstOrSecond(part)) {
            return NONE;
        }
        int over = TURNS_OF - scene.plan.turns;
        int shared = greatestShared(over, TURNS_OF);
        int base = part == 0 ? over / shared : TURNS_OF / shared;
        int odds = 1;
        for (int i = 0; i < n; i++) {
            odds *= base;
        }
        return odds;
    }

    // ---- what is TIMED ----

    public int took(int minutes, boolean is) {
        return minutes < 1 || !areMinutes(minutes) ? NONE : telling.tell(Telling.TOOK, minutes, is);
    }

    public int was(int person, boolean is) {
        return scene.isPerson(person) ? telling.tell(Telling.WAS, person, is) : NONE;
    }

    public int were(int many, boolean is) {
        return many < 1 || many > PERSONS_MOST ? NONE : telling.tell(Telling.WERE, many, is);
    }

    public boolean untell(int timed) {
        return telling.takeBack(timed);
    }

    public int later(int by) {
        return telling.goOn(by);
    }

    public int fits(int k) {
        return countFitting(k);
    }

    public int sure(int person, int k) {
        int all = countFitting(k);
        if (all == 0 || !scene.isPerson(person)) {
            return NONE;
        }
        if (fitting[person] == all) {
            return 1;
        }
        return fitting[person] == 0 ? 0 : SOME_ALONE;
    }

    public int ask(int what, int k) {
        int all = countFitting(k);
        if (all == 0 || !isFirstOrSecond(what)) {
            return NONE;
        }
        int best = NONE;
        int fewest = NONE;
        for (int person = 0; person < scene.plan.persons; person++) {
            int left = Math.max(fitting[person], all - fitting[person]);
            if (best == NONE || left < fewest) {
                best = person;
                fewest = left;
            }
        }
        return what == 0 ? best : fewest;
    }

    // ---- images ----

    public int image(int box) {
        if (box < 0 || box >= BOXES) {
            return NONE;
        }
        scene.store(boxes, box);
        boxesFull |= 1 << box;
        return scene.minute;
    }

    public int back(int box) {
        if (box < 0 || box >= BOXES || (boxesFull >> box & 1) == 0) {
            return NONE;
        }
        scene.fetch(boxes, box);
        acts.restart(scene);
        return scene.minute;
    }

    // ---- helpers of the face ----

    private static boolean isFirstOrSecond(int what) {
        return what == 0 || what == 1;
    }

    private static boolean areMinutes(int minutes) {
        return minutes >= 0 && minutes <= MINUTES_MOST;
    }

    private static int greatestShared(int a, int b) {
        int shared = 1;
        for (int i = 2; i <= b; i++) {
            if (a % i == 0 && b % i == 0) {
                shared = i;
            }
        }
        return shared;
    }

    private int howMany(int bank, int sort, int minutes) {
        if (!isFirstOrSecond(bank)) {
            return NONE;
        }
        int many = 0;
        for (int set = 1; set < scene.sets(); set++) {
            if (scene.isGroupOn(set, bank) && isOfSort(set, sort, minutes)) {
                many++;
            }
        }
        return many;
    }

    private boolean isOfSort(int set, int sort, int minutes) {
        switch (sort) {
            case SORT_PAYING:
                return scene.lackOf(set) == 0;
            case SORT_QUIET:
                return scene.talkOf(set) == 0;
            case SORT_FRAIL:
                return scene.plan.falseIn(scene.talkOf(set)) > scene.plan.bears;
            default:
                return scene.timeOf(set, scene.talkOf(set)) <= minutes;
        }
    }

    /** How many GROUPS FIT; beside it, in fitting, for each PERSON in how many of them he is. */
    private int countFitting(int k) {
        Arrays.fill(fitting, 0);
        int all = 0;
        for (int set = 1; set < scene.sets(); set++) {
            if (scene.isGroupOn(set, 0) && telling.allows(set, scene.timeOf(set, scene.talkOf(set)), k)) {
                all++;
                for (int person = 0; person < PERSONS_MOST; person++) {
                    fitting[person] += set >> person & 1;
                }
            }
        }
        return all;
    }

    // ---- the classes inside ----

    /** A whole formula, as steps that work on a stack: numbers stand for themselves, all else is below 0. */
    private static final class Formula {
        static final int STEPS = -1;
        static final int WORDS = -2;
        static final int LIES = -3;
        static final int UNITS = 6;
        static final int NOT = -33;
        static final int AND = -38;
        static final int OR = -124;
        /** The units of one formula, a sign between each two, and 7 times not ahead of each. */
        static final int CODE_MOST = 270;

        private final int[] code = new int[CODE_MOST];
        private int size;

        void clear() {
            size = 0;
        }

        void put(int step) {
            if (size < CODE_MOST) {
                code[size] = step;
                size++;
            }
        }

        int outcome(int[] units, int[] stack) {
            int top = 0;
            for (int i = 0; i < size && i < CODE_MOST; i++) {
                int step = code[i];
                if (step >= -UNITS) {
                    if (top < stack.length) {
                        stack[top] = leaf(step, units);
                        top++;
                    }
                } else if (step == NOT) {
                    if (top > 0) {
                        stack[top - 1] = stack[top - 1] == 0 ? 1 : 0;
                    }
                } else if (top > 1) {
                    top--;
                    stack[top - 1] = joined(step, stack[top - 1], stack[top]);
                }
            }
            return top > 0 ? stack[0] : 0;
        }

        private static int leaf(int step, int[] units) {
            if (step >= 0) {
                return step;
            }
            int unit = -1 - step;
            return unit < units.length ? units[unit] : 0;
        }

        private static int joined(int step, int a, int b) {
            switch (step) {
                case OR:
                    return a != 0 || b != 0 ? 1 : 0;
                case AND:
                    return a != 0 && b != 0 ? 1 : 0;
                case -'<':
                    return a < b ? 1 : 0;
                case -'>':
                    return a > b ? 1 : 0;
                case -'=':
                    return a == b ? 1 : 0;
                case -'+':
                    return a + b;
                case -'-':
                    return a - b;
                case -'*':
                    return a * b;
                case -'/':
                    return b == 0 ? 0 : a / b;
                default:
                    return b == 0 ? 0 : a % b;
            }
        }
    }

    /** What a text tells: all that no ACT ever changes, and what is so at first. */
    private static final class River {
        final int[] pace = new int[PERSONS_MOST];
        final int[] purse = new int[PERSONS_MOST];
        final int[] from = new int[MATTERS_MOST];
        final int[] to = new int[MATTERS_MOST];
        final int[] size = new int[MATTERS_MOST];
        final Formula length = new Formula();
        final Formula toll = new Formula();
        int persons;
        int over;
        int matters;
        int lying;
        int steps;
        int bears;
        int mends;
        int room;
        int turns;
        int draw;
        int units;

        River() {
            clear();
        }

        void clear() {
            persons = 0;
            over = 0;
            matters = 0;
            lying = 0;
            steps = 3;
            bears = 20;
            mends = 10;
            room = PERSONS_MOST;
            turns = 0;
            draw = 0;
            units = 0;
            length.clear();
            length.put(Formula.STEPS);
            length.put(Formula.WORDS);
            length.put(-'+');
            length.put(Formula.LIES);
            length.put(-'-');
            toll.clear();
            toll.put(0);
        }

        void addPerson(int paceTold, int coins, boolean isOver) {
            if (persons < PERSONS_MOST) {
                pace[persons] = paceTold;
                purse[persons] = coins;
                over |= isOver ? 1 << persons : 0;
                persons++;
            }
        }

        void addMatter(int of, int other, int words, boolean isLie) {
            if (matters < MATTERS_MOST) {
                from[matters] = of;
                to[matters] = other;
                size[matters] = words;
                lying |= isLie ? 1 << matters : 0;
                matters++;
            }
        }

        /** Both whom a MATTER is of and to, as bits; the matter is one that there is. */
        int ends(int matter) {
            return 1 << from[matter] | 1 << to[matter];
        }

        int wordsIn(int mattersAsBits) {
            int words = 0;
            for (int matter = 0; matter < matters; matter++) {
                if ((mattersAsBits >> matter & 1) == 1) {
                    words += size[matter];
                }
            }
            return words;
        }

        int truthsIn(int mattersAsBits) {
            return wordsIn(mattersAsBits & ~lying);
        }

        int falseIn(int mattersAsBits) {
            return wordsIn(mattersAsBits & lying);
        }

        int slowest(int set) {
            int least = 9;
            for (int person = 0; person < persons; person++) {
                if ((set >> person & 1) == 1) {
                    least = Math.min(least, pace[person]);
                }
            }
            return Math.max(least, 1);
        }
    }

    /** What is now, over what the text told; every GROUP is weighed here. */
    private static final class Scene {
        /** Coins, who HEARD each MATTER, and five numbers more are one row in a store. */
        static final int ROW = PERSONS_MOST + MATTERS_MOST + 5;
        /** A formula has 30 units at most, so no more of them ever wait. */
        static final int STACK = 30;

        River plan = new River();
        final int[] coins = new int[PERSONS_MOST];
        final int[] heard = new int[MATTERS_MOST];
        int said;
        int far;
        int minute;
        int seed;
        boolean broken;
        private final int[] units = new int[Formula.UNITS];
        private final int[] stack = new int[STACK];

        void begin(River told) {
            plan = told;
            System.arraycopy(told.purse, 0, coins, 0, PERSONS_MOST);
            Arrays.fill(heard, 0);
            said = 0;
            far = told.over;
            minute = 0;
            seed = told.draw;
            broken = false;
        }

        void store(int[] rows, int row) {
            int at = row * ROW;
            if (at < 0 || at + ROW > rows.length) {
                return;
            }
            System.arraycopy(coins, 0, rows, at, PERSONS_MOST);
            System.arraycopy(heard, 0, rows, at + PERSONS_MOST, MATTERS_MOST);
            int more = at + PERSONS_MOST + MATTERS_MOST;
            rows[more] = said;
            rows[more + 1] = far;
            rows[more + 2] = minute;
            rows[more + 3] = seed;
            rows[more + 4] = broken ? 1 : 0;
        }

        void fetch(int[] rows, int row) {
            int at = row * ROW;
            if (at < 0 || at + ROW > rows.length) {
                return;
            }
            System.arraycopy(rows, at, coins, 0, PERSONS_MOST);
            System.arraycopy(rows, at + PERSONS_MOST, heard, 0, MATTERS_MOST);
            int more = at + PERSONS_MOST + MATTERS_MOST;
            said = rows[more];
            far = rows[more + 1];
            minute = rows[more + 2];
            seed = rows[more + 3];
            broken = rows[more + 4] == 1;
        }

        boolean isPerson(int person) {
            return person >= 0 && person < plan.persons && person < PERSONS_MOST;
        }

        boolean isMatter(int matter) {
            return matter >= 0 && matter < plan.matters && matter < MATTERS_MOST;
        }

        boolean areTogether(int person, int other) {
            return (far >> person & 1) == (far >> other & 1);
        }

        /** One more than all PERSONS as bits: sets of PERSONS are below it. */
        int sets() {
            return 1 << plan.persons;
        }

        boolean isGroup(int set) {
            return isGroupOn(set, 0) || isGroupOn(set, 1);
        }

        boolean isGroupOn(int set, int bank) {
            if (!isParty(set) || bank != 0 && bank != 1) {
                return false;
            }
            return (set & far) == (bank == 0 ? 0 : set);
        }

        /** Whether the bridge has room for a set of PERSONS, wherever they are. */
        boolean isParty(int set) {
            return set > 0 && set < sets() && Integer.bitCount(set) <= plan.room;
        }

        int heardBy(int person) {
            int matters = 0;
            for (int matter = 0; matter < plan.matters; matter++) {
                matters |= (heard[matter] >> person & 1) << matter;
            }
            return matters;
        }

        int unsaidWith(int person) {
            int matters = 0;
            for (int matter = 0; matter < plan.matters; matter++) {
                matters |= (plan.ends(matter) >> person & 1) << matter;
            }
            return matters & ~said;
        }

        int talkOf(int set) {
            int talk = 0;
            for (int matter = 0; matter < plan.matters; matter++) {
                if ((plan.ends(matter) & ~set) == 0) {
                    talk |= 1 << matter;
                }
            }
            return talk & ~said;
        }

        int lengthOf(int set, int talk, int atMinute) {
            fillUnits(set, talk, 0, atMinute);
            return Math.max(1, Math.min(LENGTH_MOST, plan.length.outcome(units, stack)));
        }

        int timeOf(int set, int talk) {
            return timeAt(set, talk, minute);
        }

        int timeAt(int set, int talk, int atMinute) {
            int pace = plan.slowest(set);
            return (lengthOf(set, talk, atMinute) + pace - 1) / pace;
        }

        int tollOf(int set) {
            int talk = talkOf(set);
            fillUnits(set, talk, lengthOf(set, talk, minute), minute);
            return Math.max(0, Math.min(TOLL_MOST, plan.toll.outcome(units, stack)));
        }

        /** In the order of the unit words, as the reader numbers them. */
        private void fillUnits(int set, int talk, int length, int atMinute) {
            units[0] = plan.steps;
            units[1] = plan.wordsIn(talk & ~plan.lying);
            units[2] = plan.wordsIn(talk & plan.lying);
            units[3] = Integer.bitCount(set);
            units[4] = length;
            units[5] = atMinute;
        }

        int lackOf(int set) {
            int toll = tollOf(set);
            int lack = 0;
            for (int person = 0; person < plan.persons; person++) {
                if ((set >> person & 1) == 1) {
                    lack += Math.max(0, toll - coins[person]);
                }
            }
            return lack;
        }

        void pay(int set, int toll) {
            for (int person = 0; person < plan.persons; person++) {
                if ((set >> person & 1) == 1) {
                    coins[person] -= toll;
                }
            }
        }

        void hear(int set, int talk) {
            said |= talk;
            for (int matter = 0; matter < plan.matters; matter++) {
                if ((talk >> matter & 1) == 1) {
                    heard[matter] |= set;
                }
            }
        }

        /** Whether they are on the other BANK then, and not turned back. */
        boolean walk(int set, int minutes) {
            seed = (seed * 137 + 71) % SEED_OF;
            minute += minutes;
            if (seed % TURNS_OF < plan.turns) {
                return false;
            }
            far ^= set;
            return true;
        }
    }

    /** What was before each ACT that is kept, and behind it, as rows one after another. */
    private static final class Acts {
        static final int MOST = 40;

        private final int[] rows = new int[(MOST + 1) * Scene.ROW];
        int now;
        int last;

        void restart(Scene scene) {
            now = 0;
            last = 0;
            scene.store(rows, 0);
        }

        void add(Scene scene) {
            if (now < MOST) {
                now++;
            } else {
                System.arraycopy(rows, Scene.ROW, rows, 0, MOST * Scene.ROW);
            }
            last = now;
            scene.store(rows, now);
        }

        boolean step(Scene scene, int by) {
            if (now + by < 0 || now + by > last) {
                return false;
            }
            now += by;
            scene.fetch(rows, now);
            return true;
        }
    }

    /** WAYS over: every parting of those on the near BANK is tried, person by person. */
    private static final class Ways {
        final int[] lie = new int[PERSONS_MOST];
        int lying;
        int bestMinutes;
        int bestParts;
        private final int[] minutes = new int[SETS];
        private final int[] talk = new int[SETS];
        private final int[] part = new int[PERSONS_MOST];
        private final int[] best = new int[PERSONS_MOST];
        private int persons;
        private int near;
        private boolean allSaid;

        void find(Scene scene, boolean withAllSaid) {
            allSaid = withAllSaid;
            persons = scene.plan.persons;
            near = scene.sets() - 1 & ~scene.far;
            bestMinutes = NONE;
            bestParts = NONE;
            weighGroups(scene);
            Arrays.fill(part, 0);
            place(0, 0);
        }

        /** A set that may not cross has 0 minutes, which no GROUP has. */
        private void weighGroups(Scene scene) {
            for (int set = 1; set < scene.sets() && set < SETS; set++) {
                talk[set] = scene.talkOf(set);
                boolean may = scene.isGroupOn(set, 0) && scene.plan.falseIn(talk[set]) <= scene.plan.bears;
                minutes[set] = may ? scene.timeOf(set, talk[set]) : 0;
            }
        }

        private void place(int person, int parts) {
            if (person >= persons || person >= PERSONS_MOST) {
                weigh(parts);
                return;
            }
            int bit = 1 << person;
            if ((near & bit) == 0) {
                place(person + 1, parts);
                return;
            }
            for (int i = 0; i <= parts && i < PERSONS_MOST; i++) {
                part[i] |= bit;
                place(person + 1, Math.max(parts, i + 1));
                part[i] &= ~bit;
            }
        }

        private void weigh(int parts) {
            int sum = 0;
            int saying = 0;
            for (int i = 0; i < parts; i++) {
                if (minutes[part[i]] == 0) {
                    return;
                }
                sum += minutes[part[i]];
                saying |= talk[part[i]];
            }
            if (allSaid && saying != talk[near]) {
                return;
            }
            // partings come in the order in which the first of like ones is wanted
            boolean fewer = !allSaid && sum == bestMinutes && parts < bestParts;
            if (bestMinutes == NONE || sum < bestMinutes || fewer) {
                bestMinutes = sum;
                bestParts = parts;
                System.arraycopy(part, 0, best, 0, PERSONS_MOST);
            }
        }

        /** The parting that was found lies there then; nothing does, if none was. */
        void layDown() {
            lying = bestMinutes == NONE ? 0 : persons;
            for (int person = 0; person < lying && person < PERSONS_MOST; person++) {
                lie[person] = NONE;
                for (int i = 0; i < bestParts; i++) {
                    if ((best[i] >> person & 1) == 1) {
                        lie[person] = i;
                    }
                }
            }
        }
    }

    /** One lantern to and fro: the cheapest way through who is near and where the lantern is. */
    private static final class Lantern {
        /** A minute weighs more than all CROSSINGS that a cheapest way can have. */
        static final long MINUTE = 1024;
        static final long NOT_REACHED = 1L << 40;

        int minutes;
        int crossings;
        /** By those who are near, as bits; with the lantern on the far BANK so many sets further on. */
        private final long[] cost = new long[2 * SETS];
        private final boolean[] settled = new boolean[2 * SETS];
        private final int[] time = new int[SETS];
        private int sets;

        void find(Scene scene) {
            sets = Math.min(SETS, scene.sets());
            weighParties(scene);
            int wanting = sets - 1 & ~scene.far;
            for (int state = 0; state < 2 * sets; state++) {
                cost[state] = state == wanting ? 0 : NOT_REACHED;
                settled[state] = false;
            }
            minutes = NONE;
            crossings = NONE;
            for (int i = 0; i < 2 * sets; i++) {
                int state = cheapest();
                if (state == NONE) {
                    return;
                }
                if ((state & wanting) == 0) {
                    minutes = (int) (cost[state] / MINUTE);
                    crossings = (int) (cost[state] % MINUTE);
                    return;
                }
                settled[state] = true;
                goOnFrom(state);
            }
        }

        /** Who is on which BANK changes on the way, so sets count from both; 0 minutes: may not cross. */
        private void weighParties(Scene scene) {
            for (int set = 1; set < sets; set++) {
                int talk = scene.talkOf(set);
                boolean may = scene.isParty(set) && scene.plan.falseIn(talk) <= scene.plan.bears;
                time[set] = may ? scene.timeOf(set, talk) : 0;
            }
        }

        private int cheapest() {
            int best = NONE;
            long least = NOT_REACHED;
            for (int state = 0; state < 2 * sets; state++) {
                if (!settled[state] && cost[state] < least) {
                    best = state;
                    least = cost[state];
                }
            }
            return best;
        }

        private void goOnFrom(int state) {
            boolean isFar = state >= sets;
            int near = isFar ? state - sets : state;
            int here = isFar ? sets - 1 & ~near : near;
            for (int set = 1; set <= here; set++) {
                if ((set & ~here) == 0 && time[set] > 0) {
                    int next = (near ^ set) + (isFar ? 0 : sets);
                    cost[next] = Math.min(cost[next], cost[state] + time[set] * MINUTE + 1);
                }
            }
        }
    }

    /** What is TIMED: when it was TOLD, and when UNTOLD. */
    private static final class Telling {
        static final int MOST = 30;
        static final int CLOCK_MOST = 100000;
        static final int STEP_MOST = 1000;
        static final int TOOK = 0;
        static final int WAS = 1;
        static final int WERE = 2;

        int count;
        int clock;
        private final int[] sort = new int[MOST];
        private final int[] value = new int[MOST];
        private final int[] toldAt = new int[MOST];
        private final int[] untoldAt = new int[MOST];
        private int affirmed;

        void clear() {
            count = 0;
            affirmed = 0;
        }

        int tell(int sortTold, int valueTold, boolean is) {
            if (count >= MOST) {
                return NONE;
            }
            sort[count] = sortTold;
            value[count] = valueTold;
            toldAt[count] = clock;
            untoldAt[count] = NONE;
            affirmed |= is ? 1 << count : 0;
            count++;
            return count - 1;
        }

        boolean takeBack(int timed) {
            if (timed < 0 || timed >= count || timed >= MOST || untoldAt[timed] != NONE) {
                return false;
            }
            untoldAt[timed] = clock;
            return true;
        }

        int goOn(int by) {
            if (by < 0 || by > STEP_MOST || clock + by > CLOCK_MOST) {
                return NONE;
            }
            clock += by;
            return clock;
        }

        boolean allows(int set, int minutes, int k) {
            for (int i = 0; i < count && i < MOST; i++) {
                boolean taken = untoldAt[i] != NONE && untoldAt[i] <= k;
                boolean counts = toldAt[i] <= k && !taken;
                if (counts && isSo(i, set, minutes) != ((affirmed >> i & 1) == 1)) {
                    return false;
                }
            }
            return true;
        }

        private boolean isSo(int timed, int set, int minutes) {
            switch (sort[timed]) {
                case TOOK:
                    return minutes >= value[timed];
                case WAS:
                    return (set >> value[timed] & 1) == 1;
                default:
                    return Integer.bitCount(set) >= value[timed];
            }
        }
    }

    /** The bytes that were fed, the TOKENS among them, and the one of these that is read now. */
    private static final class Tape {
        /** Signs are kinds by their own byte, words that stand for themselves by their place in WORDS. */
        static final int FIRST_WORD = 100;
        static final int NAME = 124;
        static final int NUMBER = 125;
        static final int END = 126;
        static final int NO_TOKEN = 127;
        static final int WORD_MOST = 8;
        static final int DIGITS_MOST = 4;
        static final String WORDS = "person  pace    coins   over    say     to      lie     bridge  bears   mends   room    long    toll    turns   draw    or      and     not     steps   words   lies    many    length  minute  ";
        static final String SIGNS = ";()<>=+-*/%";

        int length;
        int kind;
        int place;
        private final byte[] bytes = new byte[TAPE_MOST];
        /** The kind of TOKEN that begins at each byte, 0: none does. */
        private final byte[] kinds = new byte[TAPE_MOST + 1];

        void put(int four) {
            for (int shift = 24; shift >= 0; shift -= 8) {
                if (length < TAPE_MOST) {
                    bytes[length] = (byte) (four >> shift);
                    length++;
                }
            }
        }

        /** Finds all TOKENS; the first of them is read then. */
        void rewind() {
            Arrays.fill(kinds, (byte) 0);
            int next = 0;
            for (int i = 0; i < length; i++) {
                if (i == next) {
                    next = mark(i);
                }
            }
            kinds[Math.min(length, TAPE_MOST)] = END;
            place = -1;
            advance();
        }

        void advance() {
            int next = Math.min(place + 1, length);
            while (next < length && kinds[next] == 0) {
                next++;
            }
            place = next;
            kind = kinds[next];
        }

        /** Answers where to look on; what is behind something that is no TOKEN is never read. */
        private int mark(int start) {
            int first = byteAt(start);
            int next = start + 1;
            if (isLetter(first)) {
                while (next < length && isLetter(byteAt(next))) {
                    next++;
                }
                kinds[start] = (byte) (next - start > WORD_MOST ? NO_TOKEN : wordKind(start, next));
            } else if (isDigit(first)) {
                while (next < length && isDigit(byteAt(next))) {
                    next++;
                }
                kinds[start] = (byte) (next - start > DIGITS_MOST || isLetter(byteAt(next)) ? NO_TOKEN : NUMBER);
            } else if (first != ' ' && first != '\n') {
                kinds[start] = (byte) (SIGNS.indexOf((char) (first & 255)) < 0 ? NO_TOKEN : first);
            }
            return next;
        }

        private int wordKind(int start, int behind) {
            for (int slot = 0; slot < WORDS.length(); slot += WORD_MOST) {
                int alike = 0;
                while (alike < WORD_MOST && WORDS.charAt(slot + alike) == (start + alike < behind ? byteAt(start + alike) : ' ')) {
                    alike++;
                }
                if (alike == WORD_MOST) {
                    return FIRST_WORD + slot / WORD_MOST;
                }
            }
            return NAME;
        }

        /** Of the N that is read now. */
        int number() {
            int number = 0;
            for (int i = place; i < place + DIGITS_MOST && isDigit(byteAt(i)); i++) {
                number = number * 10 + byteAt(i) - '0';
            }
            return number;
        }

        /** Whether the word that is read now is the one at that place. */
        boolean isLike(int other) {
            boolean alike = true;
            boolean inside = true;
            for (int i = 0; i < WORD_MOST && alike && inside; i++) {
                int mine = byteAt(place + i);
                int his = byteAt(other + i);
                inside = isLetter(mine) || isLetter(his);
                alike = mine == his || !inside;
            }
            return alike;
        }

        private static boolean isLetter(int sign) {
            return sign >= 'a' && sign <= 'z';
        }

        private static boolean isDigit(int sign) {
            return sign >= '0' && sign <= '9';
        }

        private int byteAt(int i) {
            return i < 0 || i >= length || i >= TAPE_MOST ? 0 : bytes[i];
        }
    }

    /** Reads the TAPE as a RIVER, from left to right, so that the first FAULT it meets is the first by place. */
    private static final class Reader {
        static final int PERSON = Tape.FIRST_WORD;
        static final int PACE = Tape.FIRST_WORD + 1;
        static final int COINS = Tape.FIRST_WORD + 2;
        static final int OVER = Tape.FIRST_WORD + 3;
        static final int SAY = Tape.FIRST_WORD + 4;
        static final int TO = Tape.FIRST_WORD + 5;
        static final int LIE = Tape.FIRST_WORD + 6;
        static final int BRIDGE = Tape.FIRST_WORD + 7;
        static final int BEARS = Tape.FIRST_WORD + 8;
        static final int MENDS = Tape.FIRST_WORD + 9;
        static final int ROOM = Tape.FIRST_WORD + 10;
        static final int LONG = Tape.FIRST_WORD + 11;
        static final int TOLL = Tape.FIRST_WORD + 12;
        static final int TURNS = Tape.FIRST_WORD + 13;
        static final int DRAW = Tape.FIRST_WORD + 14;
        static final int OR = Tape.FIRST_WORD + 15;
        static final int AND = Tape.FIRST_WORD + 16;
        static final int NOT = Tape.FIRST_WORD + 17;
        static final int FIRST_UNIT = Tape.FIRST_WORD + 18;
        static final int LAST_UNIT = Tape.FIRST_WORD + 23;

        static final int OUT_OF_PLACE = 2;
        static final int NAME_TWICE = 3;
        static final int WRONG_NUMBER = 4;
        static final int NAME_UNKNOWN = 5;
        /** Two formulas of so many units have the 60 that all may have. */
        static final int UNITS_MOST = 30;
        static final int NEST_MOST = 7;

        final Tape tape = new Tape();
        int fault;
        int faultPlace = NONE;
        private final int[] namePlace = new int[PERSONS_MOST];
        private int toldLines;
        private int units;

        boolean reads(River into) {
            into.clear();
            fault = 0;
            faultPlace = NONE;
            toldLines = 0;
            tape.rewind();
            for (int i = 0; i < TAPE_MOST && fault == 0 && tape.kind != Tape.END; i++) {
                readLine(into);
            }
            return fault == 0;
        }

        private void readLine(River into) {
            switch (tape.kind) {
                case PERSON:
                    readPerson(into);
                    break;
                case SAY:
                    readMatter(into);
                    break;
                case BRIDGE:
                    readBridge(into);
                    break;
                case LONG:
                    readFormula(into, into.length);
                    break;
                case TOLL:
                    readFormula(into, into.toll);
                    break;
                case TURNS:
                    tellOnce();
                    into.turns = readNumber(0, 100);
                    break;
                case DRAW:
                    tellOnce();
                    into.draw = readNumber(0, 999);
                    break;
                default:
                    stop(OUT_OF_PLACE);
                    break;
            }
            expect(';');
        }

        private void readPerson(River into) {
            if (into.persons >= PERSONS_MOST) {
                stop(OUT_OF_PLACE);
                return;
            }
            tape.advance();
            if (knownName(into) != NONE) {
                stop(NAME_TWICE);
            }
            namePlace[into.persons] = tape.place;
            expect(Tape.NAME);
            expect(PACE);
            int pace = readNumber(1, 9);
            int coins = takes(COINS) ? readNumber(0, COINS_MOST) : 0;
            into.addPerson(pace, coins, takes(OVER));
        }

        private void readMatter(River into) {
            if (into.matters >= MATTERS_MOST) {
                stop(OUT_OF_PLACE);
                return;
            }
            tape.advance();
            int of = readKnown(into, NONE);
            expect(TO);
            int to = readKnown(into, of);
            int words = readNumber(0, 99);
            into.addMatter(of, to, words, takes(LIE));
        }

        private void readBridge(River into) {
            tellOnce();
            into.steps = readNumber(1, 99);
            if (takes(BEARS)) {
                into.bears = readNumber(0, 999);
            }
            if (takes(MENDS)) {
                into.mends = readNumber(1, 60);
            }
            if (takes(ROOM)) {
                into.room = readNumber(1, PERSONS_MOST);
            }
        }

        private void readFormula(River into, Formula formula) {
            tellOnce();
            formula.clear();
            units = 0;
            readEither(formula, 0);
            into.units += units;
        }

        private void readEither(Formula formula, int depth) {
            readBoth(formula, depth);
            for (int i = 0; i < TAPE_MOST && takes(OR); i++) {
                readBoth(formula, depth);
                formula.put(Formula.OR);
            }
        }

        private void readBoth(Formula formula, int depth) {
            readOne(formula, depth);
            for (int i = 0; i < TAPE_MOST && takes(AND); i++) {
                readOne(formula, depth);
                formula.put(Formula.AND);
            }
        }

        private void readOne(Formula formula, int depth) {
            if (tape.kind == NOT && depth < NEST_MOST) {
                tape.advance();
                readOne(formula, depth + 1);
                formula.put(Formula.NOT);
                return;
            }
            readSum(formula, depth);
            int sign = tape.kind;
            if (takes('<') || takes('>') || takes('=')) {
                readSum(formula, depth);
                formula.put(-sign);
            }
        }

        private void readSum(Formula formula, int depth) {
            readTerm(formula, depth);
            int sign = tape.kind;
            for (int i = 0; i < TAPE_MOST && (takes('+') || takes('-')); i++) {
                readTerm(formula, depth);
                formula.put(-sign);
                sign = tape.kind;
            }
        }

        private void readTerm(Formula formula, int depth) {
            readUnit(formula, depth);
            int sign = tape.kind;
            for (int i = 0; i < TAPE_MOST && (takes('*') || takes('/') || takes('%')); i++) {
                readUnit(formula, depth);
                formula.put(-sign);
                sign = tape.kind;
            }
        }

        private void readUnit(Formula formula, int depth) {
            if (fault != 0 || units >= UNITS_MOST) {
                stop(OUT_OF_PLACE);
                return;
            }
            units++;
            if (tape.kind == Tape.NUMBER) {
                formula.put(tape.number());
                tape.advance();
            } else if (tape.kind >= FIRST_UNIT && tape.kind <= LAST_UNIT) {
                formula.put(Formula.STEPS - (tape.kind - FIRST_UNIT));
                tape.advance();
            } else if (tape.kind == '(' && depth < NEST_MOST) {
                tape.advance();
                readEither(formula, depth + 1);
                expect(')');
            } else {
                stop(OUT_OF_PLACE);
            }
        }

        /** At the first word of a line that may be told but once. */
        private void tellOnce() {
            int bit = 1 << tape.kind - PERSON;
            if ((toldLines & bit) != 0) {
                stop(OUT_OF_PLACE);
            }
            toldLines |= bit;
            tape.advance();
        }

        private int readNumber(int least, int most) {
            int number = tape.number();
            if (tape.kind == Tape.NUMBER && (number < least || number > most)) {
                stop(WRONG_NUMBER);
            }
            expect(Tape.NUMBER);
            return number;
        }

        /** A NAME that a PERSON has, who is not that other one. */
        private int readKnown(River into, int other) {
            int person = knownName(into);
            if (tape.kind == Tape.NAME && person == NONE) {
                stop(NAME_UNKNOWN);
            }
            if (person != NONE && person == other) {
                stop(NAME_TWICE);
            }
            expect(Tape.NAME);
            return Math.max(person, 0);
        }

        private int knownName(River into) {
            for (int person = 0; person < into.persons && tape.kind == Tape.NAME; person++) {
                if (tape.isLike(namePlace[person])) {
                    return person;
                }
            }
            return NONE;
        }

        private boolean takes(int kind) {
            if (fault != 0 || tape.kind != kind) {
                return false;
            }
            tape.advance();
            return true;
        }

        private void expect(int kind) {
            if (!takes(kind)) {
                stop(OUT_OF_PLACE);
            }
        }

        private void stop(int why) {
            if (fault == 0) {
                fault = tape.kind == Tape.NO_TOKEN ? 1 : why;
                faultPlace = tape.place;
            }
        }
    }
}
