/** Promises 6 to 51, each by answers worked out by hand from the document: ordinary ones, edges, wrong inputs. */
public final class PromiseTest {
    private static final int[] WRONG = {-1, -2, 7, 8, 31, 32, 33, Integer.MIN_VALUE, Integer.MAX_VALUE};

    public static void main(String[] args) {
        lookups();
        groups();
        lengthsAndTolls();
        crossing();
        breaking();
        handing();
        comingUpAgain();
        undoing();
        fortyActs();
        soonest();
        silent();
        lantern();
        partner();
        hushAndKeep();
        splitBearEarsWorth();
        banks();
        persons();
        single();
        odds();
        timed();
        timedLimits();
        images();
        Due.finish("PromiseTest");
    }

    /** a and b are near, c is far; matter 0 is open between the near ones, 1 a lie over the river, 2 between a and c. */
    private static TalkBridge three() {
        return Due.river("person a pace 2 coins 9;person b pace 5;person c pace 9 coins 999 over;"
            + "say b to a 12;say c to b 99 lie;say a to c 0;");
    }

    private static void lookups() {
        TalkBridge x = three();
        int[][] persons = {{2, 9, 0, 0, 5, -1}, {5, 0, 0, 0, 3, -1}, {9, 999, 1, 0, 6, -1}};
        int[][] matters = {{1, 0, 12, 0, 0, 3, -1}, {2, 1, 99, 1, 0, 6, -1}, {0, 2, 0, 0, 0, 5, -1}};
        for (int i = 0; i < 3; i++) {
            for (int what = 0; what < persons[i].length; what++) {
                Due.due("person(" + i + ", " + what + ")", x.person(i, what), persons[i][what]);
            }
            for (int what = 0; what < matters[i].length; what++) {
                Due.due("matter(" + i + ", " + what + ")", x.matter(i, what), matters[i][what]);
            }
        }
        for (int wrong : WRONG) {
            Due.due("person(wrong, 0)", x.person(wrong, 0), -1);
            Due.due("person(0, wrong)", x.person(0, wrong), -1);
            Due.due("matter(wrong, 0)", x.matter(wrong, 0), -1);
            Due.due("matter(0, wrong)", x.matter(0, wrong), -1);
            Due.due("friends(wrong)", x.friends(wrong), -1);
        }
        Due.due("person(3, 0)", x.person(3, 0), -1);
        Due.due("matter(3, 0)", x.matter(3, 0), -1);
        Due.due("about(0)", x.about(0), 3);
        Due.due("about(1)", x.about(1), 3);
        Due.due("about(2)", x.about(2), 4);
        for (int wrong : new int[] {-1, 17, 18, Integer.MAX_VALUE}) {
            Due.due("about(wrong)", x.about(wrong), -1);
        }
    }

    private static void groups() {
        TalkBridge x = three();
        int[] both = {12, 0, 15, 8, 0, 1, -1};
        for (int what = 0; what < both.length; what++) {
            Due.due("group(3, " + what + ")", x.group(3, what), both[what]);
        }
        Due.due("group(4, 3)", x.group(4, 3), 1);
        Due.due("group(5, 0): on two BANKS", x.group(5, 0), -1);
        Due.due("group(8, 0): nobody", x.group(8, 0), -1);
        Due.due("group(0, 0)", x.group(0, 0), -1);
        Due.due("group(3, -1)", x.group(3, -1), -1);
        for (int wrong : WRONG) {
            int set = wrong == 7 ? 6 : wrong;
            Due.due("group(wrong, 0)", x.group(set, 0), -1);
            Due.due("cross(wrong)", x.cross(set), -1);
            Due.due("hush(wrong, 0)", x.hush(set, 0), -1);
            Due.due("keep(wrong, 9, 0)", x.keep(set, 9, 0), -1);
            Due.due("lacks(wrong)", x.lacks(set), -1);
            Due.due("split(wrong, 0)", x.split(set, 0), -1);
            Due.due("bear(wrong)", x.bear(set), -1);
            Due.due("ears(wrong)", x.ears(set), -1);
            Due.due("worth(wrong)", x.worth(set), -100000);
        }
        TalkBridge narrow = Due.river("person a pace 1;person b pace 1;person c pace 1;bridge 3 room 2;");
        Due.due("group(3, 3) with room", narrow.group(3, 3), 3);
        Due.due("group(7, 3) without room", narrow.group(7, 3), -1);
    }

    private static void lengthsAndTolls() {
        TalkBridge x = Due.river("person a pace 4 coins 50;person b pace 9 coins 50;say a to b 6;say b to a 2 lie;"
            + "bridge 5;long steps * 10 + words - lies * 2 + many * 100 + length + minute * 1000;"
            + "toll length / 100 + minute;");
        // 50 + 6 - 4 + 200, by 4 up to 63
        Due.due("LENGTH", x.group(3, 2), 252);
        Due.due("TIME is up to whole minutes", x.group(3, 3), 63);
        Due.due("TOLL by the LENGTH", x.group(3, 4), 2);
        Due.due("cross(2)", x.cross(2), 17);
        Due.due("coins behind it", x.person(1, 1), 49);
        Due.due("LENGTH by minute 17 is 9999 at most", x.group(1, 2), 9999);
        Due.due("TIME", x.group(1, 3), 2500);
        Due.due("TOLL by minute 17", x.group(1, 4), 99 + 17);
        TalkBridge deep = Due.river("person a pace 9;long 0 - 5;toll 1000;");
        Due.due("LENGTH 1 at least", deep.group(1, 2), 1);
        Due.due("TIME 1 at least", deep.group(1, 3), 1);
        Due.due("TOLL 999 at most", deep.group(1, 4), 999);
        Due.due("lacks", deep.lacks(1), 999);
        Due.due("TOLL 0 at least", Due.river("person a pace 9;toll 0 - 1;").group(1, 4), 0);
    }

    private static void crossing() {
        // the SEED 0 becomes 71, then 137 * 71 + 71 = 9798: 798, then 109326 + 71: 397, then 54389 + 71: 460
        TalkBridge x = Due.river("person a pace 1 coins 5;person b pace 2 coins 3;say a to b 4;toll 2;turns 61;");
        Due.due("cross(3)", x.cross(3), 7);
        Due.due("about(6)", x.about(6), 71);
        Due.due("about(5)", x.about(5), 7);
        Due.due("about(2)", x.about(2), 3);
        Due.due("about(3)", x.about(3), 1);
        Due.due("person(0, 1)", x.person(0, 1), 3);
        Due.due("person(1, 1)", x.person(1, 1), 1);
        Due.due("person(1, 3)", x.person(1, 3), 1);
        Due.due("person(1, 4)", x.person(1, 4), 0);
        Due.due("b can't pay", x.cross(3), -1);
        Due.due("b can't pay", x.cross(2), -1);
        Due.due("a crosses back, in three steps", x.cross(1), 3);
        Due.due("about(6)", x.about(6), 798);
        Due.due("about(2)", x.about(2), 2);
        Due.due("hand over the river", x.hand(0, 1, 1), -1);
        Due.due("about(7)", x.about(7), 2);
        TalkBridge turned = Due.river("person a pace 1 coins 9;person b pace 1;say a to b 1;turns 72;draw 0;");
        Due.due("71 is less than 72", turned.cross(3), 0);
        Due.due("nobody is over", turned.about(2), 0);
        Due.due("it is said", turned.about(3), 1);
        Due.due("minutes go by", turned.about(5), 4);
        Due.due("an ACT", turned.about(7), 1);
        Due.due("98 is not", turned.cross(1), 3);
        Due.due("overheard by none", turned.matter(0, 5), 3);
        TalkBridge edge = Due.river("person a pace 1;turns 71;");
        Due.due("71 is not less than 71", edge.cross(1), 3);
        TalkBridge heard = Due.river("person a pace 1;person b pace 1;person c pace 1;say a to b 1;");
        heard.cross(7);
        Due.due("overheard", heard.matter(0, 5), 7);
        Due.due("overheard", heard.person(2, 3), 1);
        Due.due("SAID", heard.matter(0, 4), 1);
    }

    private static void breaking() {
        TalkBridge x = Due.river("person a pace 1 coins 5;person b pace 1 coins 5;say a to b 9 lie;say b to a 8 lie;"
            + "bridge 4 bears 16 mends 6;toll 1;draw 3;");
        Due.due("bear of one", x.bear(1), 16);
        Due.due("bear", x.bear(3), -1);
        Due.due("mend a whole one", x.mend(), -1);
        Due.due("cross breaks it", x.cross(3), -2);
        Due.due("broken", x.about(4), 1);
        Due.due("nobody is over", x.about(2), 0);
        Due.due("no minutes", x.about(5), 0);
        Due.due("no draw", x.about(6), 3);
        Due.due("but it was paid", x.person(0, 1), 4);
        Due.due("and said", x.about(3), 3);
        Due.due("and heard", x.person(1, 3), 3);
        Due.due("an ACT", x.about(7), 1);
        Due.due("no crossing", x.cross(1), -1);
        Due.due("a GROUP it is still", x.group(1, 3), 4);
        Due.due("hand on a broken one", x.hand(0, 1, 1), 5);
        Due.due("mend", x.mend(), 6);
        Due.due("whole", x.about(4), 0);
        Due.due("an ACT", x.about(7), 3);
        Due.due("cross", x.cross(3), 4);
        TalkBridge edge = Due.river("person a pace 1;person b pace 1;say a to b 16 lie;bridge 9 bears 16;");
        Due.due("bear", edge.bear(3), 0);
        Due.due("as much as it bears", edge.cross(3), 1);
        TalkBridge one = Due.river("person a pace 1;person b pace 1;say a to b 1 lie;bridge 9 bears 0;");
        Due.due("one more than it bears", one.cross(3), -2);
        Due.due("mends 10 if not told", one.mend(), 10);
    }

    private static void handing() {
        TalkBridge x = Due.river("person a pace 1 coins 10;person b pace 1 coins 990;person c pace 1 coins 5 over;");
        Due.due("none", x.hand(0, 1, 0), -1);
        Due.due("below none", x.hand(0, 1, -1), -1);
        Due.due("more than his", x.hand(0, 1, 11), -1);
        Due.due("1000 were too many", x.hand(0, 1, 10), -1);
        Due.due("over the river", x.hand(0, 2, 1), -1);
        Due.due("to himself", x.hand(0, 0, 1), -1);
        for (int wrong : WRONG) {
            Due.due("hand(wrong, ..)", x.hand(wrong, 0, 1), -1);
            Due.due("hand(.., wrong)", x.hand(0, wrong, 1), -1);
        }
        Due.due("hand(0, 1, int's most)", x.hand(0, 1, Integer.MAX_VALUE), -1);
        Due.due("nothing was done", x.about(7), 0);
        Due.due("999", x.hand(0, 1, 9), 999);
        Due.due("his", x.person(0, 1), 1);
        Due.due("all", x.hand(1, 0, 999), -1);
        Due.due("998", x.hand(1, 0, 998), 999);
        Due.due("two ACTS", x.about(7), 2);
    }

    private static void comingUpAgain() {
        TalkBridge x = Due.river("person a pace 1;person b pace 1;person c pace 1;say a to b 4;say b to c 1;");
        Due.due("not said yet", x.again(0), -1);
        x.cross(3);
        Due.due("who heard", x.again(0), 3);
        Due.due("not twice", x.again(0), -1);
        Due.due("not said", x.matter(0, 4), 0);
        Due.due("heard still", x.person(0, 3), 1);
        Due.due("talked again", x.group(3, 5), 1);
        Due.due("not the other", x.again(1), -1);
        for (int wrong : new int[] {-1, 2, 12, 31, 32, Integer.MIN_VALUE, Integer.MAX_VALUE}) {
            Due.due("again(wrong)", x.again(wrong), -1);
        }
        Due.due("two ACTS", x.about(7), 2);
    }

    private static void undoing() {
        TalkBridge x = Due.river("person a pace 1 coins 9;person b pace 1;say a to b 9 lie;bridge 4 bears 8 mends 7;toll minute;draw 5;");
        x.hand(0, 1, 4);
        x.cross(3);
        x.mend();
        Due.due("minute", x.about(5), 7);
        Due.due("three to undo", x.about(7), 3);
        Due.due("undo", x.undo(), true);
        Due.due("broken again", x.about(4), 1);
        Due.due("minute", x.about(5), 0);
        Due.due("one to redo", x.about(8), 1);
        Due.due("undo", x.undo(), true);
        Due.due("whole", x.about(4), 0);
        Due.due("not said", x.about(3), 0);
        Due.due("not heard", x.person(0, 3), 0);
        Due.due("undo", x.undo(), true);
        Due.due("coins", x.person(0, 1), 9);
        Due.due("none is left", x.undo(), false);
        Due.due("none to undo", x.about(7), 0);
        Due.due("three to redo", x.about(8), 3);
        Due.due("redo", x.redo(), true);
        Due.due("coins", x.person(1, 1), 4);
        Due.due("redo", x.redo(), true);
        Due.due("broken", x.about(4), 1);
        Due.due("what does nothing keeps it", x.cross(1), -1);
        Due.due("one to redo", x.about(8), 1);
        Due.due("another ACT", x.hand(1, 0, 1), 6);
        Due.due("none to redo", x.redo(), false);
        Due.due("three to undo", x.about(7), 3);
        Due.due("mend", x.mend(), 7);
        Due.due("a can't pay 7 each", x.cross(2), -1);
        x.hand(1, 0, 3);
        Due.due("cross", x.cross(1), 4);
        Due.due("SEED", x.about(6), 756);
        Due.due("undo", x.undo(), true);
        Due.due("the SEED is taken back", x.about(6), 5);
        Due.due("BANK", x.person(0, 2), 0);
        Due.due("redo", x.redo(), true);
        Due.due("the SEED comes again", x.about(6), 756);
        Due.due("coins", x.person(0, 1), 2);
        Due.due("BANK", x.person(0, 2), 1);
    }

    private static void fortyActs() {
        TalkBridge x = Due.river("person a pace 1 coins 50;person b pace 1;");
        for (int i = 1; i <= 43; i++) {
            Due.due("hand " + i, x.hand(0, 1, 1), i);
            Due.due("kept " + i, x.about(7), Math.min(i, 40));
        }
        for (int i = 0; i < 40; i++) {
            Due.due("undo", x.undo(), true);
        }
        Due.due("undo 41", x.undo(), false);
        Due.due("the oldest are gone", x.person(1, 1), 3);
        Due.due("about(8)", x.about(8), 40);
        for (int i = 0; i < 40; i++) {
            Due.due("redo", x.redo(), true);
        }
        Due.due("redo 41", x.redo(), false);
        Due.due("all again", x.person(1, 1), 43);
        x.undo();
        x.undo();
        x.hand(0, 1, 5);
        Due.due("39 and one more", x.about(7), 39);
        Due.due("b has", x.person(1, 1), 46);
        x.undo();
        Due.due("b has", x.person(1, 1), 41);
    }

    private static void soonest() {
        // each alone 3 minutes; whoever goes together shares them
        TalkBridge x = Due.river("person a pace 1;person b pace 1;person c pace 1 over;person d pace 1;say a to d 2;");
        Due.due("all in one", x.soonest(), 5);
        lying(x, 0, 0, -1, 0);
        TalkBridge talkers = Due.river("person a pace 1;person b pace 1;person c pace 3;person d pace 1;"
            + "say a to c 30;long 3 + words * (many > 2) + words;");
        // a and c must go together: alone they take 33, with another one 63; b and d together 3
        Due.due("two GROUPS", talkers.soonest(), 36);
        lying(talkers, 0, 1, 0, 1);
        TalkBridge like = Due.river("person a pace 1;person b pace 1;person c pace 1;long many * 2;");
        Due.due("of like ones the first", like.soonest(), 6);
        lying(like, 0, 0, 0);
        TalkBridge room = Due.river("person a pace 1;person b pace 1;person c pace 1;bridge 3 room 2;");
        Due.due("room", room.soonest(), 6);
        lying(room, 0, 0, 1);
        TalkBridge seven = Due.river("person a pace 1;person b pace 1;person c pace 1;person d pace 1;person e pace 1;"
            + "person f pace 1;person g pace 1;bridge 99 room 1;");
        Due.due("seven, each alone", seven.soonest(), 693);
        lying(seven, 0, 1, 2, 3, 4, 5, 6);
        Due.due("silent", seven.silent(0), 693);
        Due.due("silent", seven.silent(1), 7);
        TalkBridge tied = Due.river("person a pace 1;person b pace 1;person c pace 1;say a to b 1;say b to c 1;bridge 3 room 2;");
        Due.due("no room for all that is to be said", tied.soonest(), -1);
        lying(tied);
        TalkBridge breaks = Due.river("person a pace 1;person b pace 1;say a to b 21 lie;");
        Due.due("breaks", breaks.soonest(), -1);
        lying(breaks);
        Due.due("cross breaks it", breaks.cross(3), -2);
        Due.due("as if the bridge were whole, with nothing to say", breaks.soonest(), 3);
        lying(breaks, 0, 0);
        TalkBridge over = Due.river("person a pace 1 over;person b pace 1 over;say a to b 1;");
        Due.due("nobody is near", over.soonest(), 0);
        lying(over, -1, -1);
        Due.due("nothing is done", over.about(3) + over.about(7), 0);
        over.cross(1);
        Due.due("what lies there stays till the next", over.lies(0), -1);
        Due.due("one is near", over.soonest(), 3);
        lying(over, 0, -1);
        TalkBridge late = Due.river("person a pace 1;person b pace 1;person c pace 1;long 2 + minute;bridge 1 room 1;");
        late.cross(1);
        Due.due("minute as now", late.soonest(), 8);
        lying(late, -1, 0, 1);
    }

    private static void lying(TalkBridge x, int... numbers) {
        Due.due("about(13)", x.about(13), numbers.length);
        for (int i = 0; i < numbers.length; i++) {
            Due.due("lies(" + i + ")", x.lies(i), numbers[i]);
        }
        Due.due("lies(-1)", x.lies(-1), -2);
        Due.due("lies(" + numbers.length + ")", x.lies(numbers.length), -2);
        Due.due("lies(int's most)", x.lies(Integer.MAX_VALUE), -2);
        Due.due("lies(int's least)", x.lies(Integer.MIN_VALUE), -2);
    }

    private static void silent() {
        TalkBridge x = Due.river("person a pace 1;person b pace 1;person c pace 1;say a to b 30;");
        Due.due("a and c, b", x.silent(0), 6);
        Due.due("GROUPS", x.silent(1), 2);
        TalkBridge like = Due.river("person a pace 1;person b pace 1;person c pace 1;long many * 2;");
        Due.due("minutes", like.silent(0), 6);
        Due.due("of like ones the fewest GROUPS", like.silent(1), 1);
        String four = "person a pace 1;person b pace 1;person c pace 1;person d pace 1;say c to d 30;say a to d 30;say b to c 30;";
        TalkBridge parted = Due.river(four + "say a to c 30;say b to d 30;");
        // a b, c, d, whatever fewer GROUPS come behind it
        Due.due("minutes", parted.silent(0), 9);
        Due.due("GROUPS", parted.silent(1), 3);
        TalkBridge later = Due.river(four + "say b to d 3;");
        // a b, c, d take 9 as well as a c, b d
        Due.due("minutes", later.silent(0), 9);
        Due.due("the fewest GROUPS, though they come later", later.silent(1), 2);
        TalkBridge breaks = Due.river("person a pace 1;person b pace 1;say a to b 21 lie;bridge 50;");
        Due.due("together it would break", breaks.silent(0), 100);
        Due.due("GROUPS", breaks.silent(1), 2);
        Due.due("silent(2)", breaks.silent(2), -1);
        Due.due("silent(-1)", breaks.silent(-1), -1);
        TalkBridge over = Due.river("person a pace 1 over;");
        Due.due("nobody is near", over.silent(0), 0);
        Due.due("nobody is near", over.silent(1), 0);
        over.soonest();
        Due.due("silent", over.silent(0), 0);
        Due.due("what lies there stays", over.about(13), 1);
    }

    private static void lantern() {
        TalkBridge threes = Due.river("person a pace 1;person b pace 1;person c pace 1;bridge 3 room 2;");
        Due.due("three by two", threes.lantern(0), 9);
        Due.due("CROSSINGS", threes.lantern(1), 3);
        TalkBridge paces = Due.river("person a pace 8;person b pace 4;person c pace 2;person d pace 1;bridge 8 room 2;");
        // 1, 2, 4 and 8 minutes: a b over 2, a back 1, c d over 8, b back 2, a b over 2
        Due.due("1, 2, 4, 8", paces.lantern(0), 15);
        Due.due("CROSSINGS", paces.lantern(1), 5);
        TalkBridge alone = Due.river("person a pace 1;person b pace 1;bridge 3 room 1;");
        Due.due("room for one alone", alone.lantern(0), -1);
        Due.due("room for one alone", alone.lantern(1), -1);
        TalkBridge help = Due.river("person a pace 1;person b pace 1;person c pace 1 over;say a to b 21 lie;");
        // a and b can't go together: a over, c or a back, c and b over
        Due.due("one who is over helps", help.lantern(0), 9);
        Due.due("CROSSINGS", help.lantern(1), 3);
        TalkBridge talk = Due.river("person a pace 1;person b pace 1;say a to b 50;");
        Due.due("all at once", talk.lantern(0), 53);
        Due.due("CROSSINGS", talk.lantern(1), 1);
        TalkBridge each = Due.river("person a pace 1;person b pace 1;person c pace 1;say a to b 2;bridge 1 room 2;");
        // a c over, c back, b c over, each silent
        Due.due("silent ones", each.lantern(0), 3);
        Due.due("CROSSINGS", each.lantern(1), 3);
        TalkBridge like = Due.river("person a pace 1;person b pace 1;person c pace 1;say a to b 2;bridge 1;");
        // all at once takes 3 minutes, as the three CROSSINGS would
        Due.due("minutes", like.lantern(0), 3);
        Due.due("of like ones the fewest CROSSINGS", like.lantern(1), 1);
        Due.due("lantern(2)", like.lantern(2), -1);
        Due.due("lantern(-1)", like.lantern(-1), -1);
        TalkBridge over = Due.river("person a pace 1 over;");
        Due.due("nobody is near", over.lantern(0), 0);
        Due.due("nobody is near", over.lantern(1), 0);
    }

    private static void partner() {
        TalkBridge x = Due.river("person a pace 3;person b pace 3;person c pace 1;person d pace 3;person e pace 9 over;say a to b 9;");
        Due.due("partner(0, 0)", x.partner(0, 0), 3);
        Due.due("partner(0, 1)", x.partner(0, 1), 1);
        Due.due("partner(1, 0)", x.partner(1, 0), 3);
        Due.due("of like ones the first", x.partner(3, 0), 0);
        Due.due("of like ones the first", x.partner(2, 0), 0);
        Due.due("partner(2, 1)", x.partner(2, 1), 3);
        Due.due("alone on his BANK", x.partner(4, 0), -1);
        Due.due("alone on his BANK", x.partner(4, 1), -1);
        Due.due("partner(0, 2)", x.partner(0, 2), -1);
        Due.due("partner(5, 0)", x.partner(5, 0), -1);
        for (int wrong : WRONG) {
            Due.due("partner(wrong, 0)", x.partner(wrong, 0), -1);
        }
        TalkBridge one = Due.river("person a pace 3;person b pace 3;bridge 1 room 1;");
        Due.due("room for one alone", one.partner(0, 0), -1);
        Due.due("room for one alone", one.partner(0, 1), -1);
    }

    private static void hushAndKeep() {
        TalkBridge x = Due.river("person a pace 1;person b pace 1;say a to b 5;say b to a 9;say a to b 4 lie;say b to a 9;bridge 2;");
        // 2 + 23 - 4 are 21
        Due.due("hush(3, 0): of like ones the first", x.hush(3, 0), 1);
        Due.due("hush(3, 1)", x.hush(3, 1), 12);
        Due.due("hush(3, 2)", x.hush(3, 2), -1);
        Due.due("hush(1, 0): nothing is talked", x.hush(1, 0), -1);
        Due.due("hush(1, 1)", x.hush(1, 1), -1);
        keep(x, 21, 0, 0);
        keep(x, 20, 1, 1);
        keep(x, 16, 1, 1);
        keep(x, 15, 1, 2);
        keep(x, 12, 1, 2);
        keep(x, 11, 2, 3);
        keep(x, 7, 2, 3);
        keep(x, 6, 2, 10);
        keep(x, 3, 2, 10);
        keep(x, 2, 3, 11);
        keep(x, 1, 3, 11);
        keep(x, 0, -1, -1);
        keep(x, 9999, 0, 0);
        keep(x, 10000, -1, -1);
        keep(x, -1, -1, -1);
        Due.due("keep(3, 9, 2)", x.keep(3, 9, 2), -1);
        Due.due("keep(3, 9, -1)", x.keep(3, 9, -1), -1);
        Due.due("nothing to keep back", x.keep(1, 2, 0), 0);
        Due.due("nothing to keep back", x.keep(1, 2, 1), 0);
        Due.due("nothing to keep back, and too long", x.keep(1, 1, 0), -1);
    }

    private static void keep(TalkBridge x, int minutes, int many, int which) {
        Due.due("keep(3, " + minutes + ", 0)", x.keep(3, minutes, 0), many);
        Due.due("keep(3, " + minutes + ", 1)", x.keep(3, minutes, 1), which);
    }

    private static void splitBearEarsWorth() {
        TalkBridge x = Due.river("person a pace 1;person b pace 2;person c pace 1;person d pace 2;person e pace 1 over;"
            + "say a to b 7;say c to d 5 lie;say a to d 0;bridge 10 bears 6;");
        // b alone takes 5, the others by their lie no more
        Due.due("split(15, 0)", x.split(15, 0), 13);
        Due.due("split(15, 1)", x.split(15, 1), 10);
        Due.due("split(3, 0)", x.split(3, 0), 1);
        Due.due("split(3, 1)", x.split(3, 1), 15);
        // b with c: 10, d 5; b 5, c with d 5; b with d 5, c 10
        Due.due("split(14, 0)", x.split(14, 0), 2);
        Due.due("split(14, 1)", x.split(14, 1), 10);
        Due.due("split(3, 2)", x.split(3, 2), -1);
        TalkBridge like = Due.river("person a pace 1 over;person b pace 1;person c pace 1;person d pace 1;");
        Due.due("of like ones the least", like.split(14, 0), 2);
        Due.due("split(2, 0): one alone", x.split(2, 0), -1);
        Due.due("split(2, 1): one alone", x.split(2, 1), -1);
        Due.due("bear(15)", x.bear(15), 1);
        Due.due("bear(3)", x.bear(3), 6);
        // a takes 10: with b 17, with c 10, with d 10 (what has no words is talked)
        Due.due("ears(1)", x.ears(1), 12);
        // b takes 5: with a 17, with c 10, with d 5
        Due.due("ears(2)", x.ears(2), 8);
        Due.due("ears(15): nobody else is there", x.ears(15), 0);
        Due.due("ears(16)", x.ears(16), 0);
        Due.due("worth(3)", x.worth(3), 7);
        Due.due("worth(12): lies make it shorter", x.worth(12), -5);
        Due.due("worth(1)", x.worth(1), 0);
        Due.due("worth(17): two BANKS", x.worth(17), -100000);
        TalkBridge room = Due.river("person a pace 1;person b pace 1;bridge 3 room 1;");
        Due.due("no room for ears", room.ears(1), 0);
    }

    private static void banks() {
        TalkBridge x = Due.river("person a pace 1 coins 3;person b pace 1 coins 4;person c pace 2 coins 4;person d pace 1 coins 1 over;"
            + "say a to b 21 lie;say b to c 2;bridge 30;toll many + 1;");
        // TOLLS: one 2, two 3, three 4: all near but a b c can pay, and c, b c too
        Due.due("payers(0)", x.payers(0), 6);
        Due.due("payers(1)", x.payers(1), 0);
        Due.due("lacks(7)", x.lacks(7), 1);
        Due.due("lacks(8)", x.lacks(8), 1);
        Due.due("lacks(3)", x.lacks(3), 0);
        Due.due("longest(0)", x.longest(0), 6);
        Due.due("longest(1)", x.longest(1), 8);
        // a, b, c, a c talk nothing
        Due.due("quiet(0)", x.quiet(0), 4);
        Due.due("quiet(1)", x.quiet(1), 1);
        Due.due("frail(0)", x.frail(0), 2);
        Due.due("frail(1)", x.frail(1), 0);
        // a 30, b 30, c 15, a b 9, a c 30, b c 32, a b c 11
        Due.due("within(0, 30)", x.within(0, 30), 6);
        Due.due("within(0, 15)", x.within(0, 15), 3);
        Due.due("within(0, 8)", x.within(0, 8), 0);
        Due.due("within(0, 9999)", x.within(0, 9999), 7);
        Due.due("within(1, 0)", x.within(1, 0), 0);
        Due.due("within(0, -1)", x.within(0, -1), -1);
        Due.due("within(0, 10000)", x.within(0, 10000), -1);
        Due.due("rich(0): of like ones the first", x.rich(0), 1);
        Due.due("rich(1)", x.rich(1), 3);
        Due.due("voice(0, 0)", x.voice(0, 0), 3);
        Due.due("voice(0, 1)", x.voice(0, 1), 9);
        Due.due("voice(1, 0): with a it is shorter", x.voice(1, 0), 7);
        Due.due("voice(1, 1)", x.voice(1, 1), 11);
        Due.due("voice(1, 2)", x.voice(1, 2), -1);
        Due.due("voice(2, 0)", x.voice(2, 0), -1);
        Due.due("voice(-1, 0)", x.voice(-1, 0), -1);
        Due.due("voice(32, 0)", x.voice(32, 0), -1);
        for (int bank : new int[] {-1, 2, 3, Integer.MIN_VALUE, Integer.MAX_VALUE}) {
            Due.due("payers(wrong)", x.payers(bank), -1);
            Due.due("longest(wrong)", x.longest(bank), -1);
            Due.due("quiet(wrong)", x.quiet(bank), -1);
            Due.due("rich(wrong)", x.rich(bank), -1);
            Due.due("frail(wrong)", x.frail(bank), -1);
            Due.due("within(wrong, 5)", x.within(bank, 5), -1);
        }
        TalkBridge like = Due.river("person a pace 1;person b pace 1;");
        Due.due("longest: of like ones the least", like.longest(0), 1);
        Due.due("nobody there", like.longest(1), -1);
        Due.due("nobody there", like.rich(1), -1);
        Due.due("nobody there", like.payers(1), 0);
        TalkBridge zero = Due.river("person a pace 1;person b pace 1;person c pace 1;say a to b 0;");
        Due.due("what has no words is talked, too", zero.quiet(0), 5);
        Due.due("voice: of like ones the least", zero.voice(0, 0), 3);
        zero.cross(3);
        Due.due("SAID", zero.voice(0, 0), -1);
        TalkBridge apart = three();
        Due.due("voice over the river", apart.voice(1, 0), -1);
    }

    private static void persons() {
        TalkBridge x = three();
        Due.due("friends(0)", x.friends(0), 6);
        Due.due("friends(1)", x.friends(1), 5);
        Due.due("friends(2)", x.friends(2), 3);
        Due.due("talker: 12, 111, 99", x.talker(), 1);
        Due.due("mute", x.mute(), 0);
        Due.due("apart", x.apart(), 6);
        Due.due("knowing, if none is SAID", x.knowing(), 7);
        x.cross(3);
        Due.due("knowing", x.knowing(), 3);
        Due.due("friends(0)", x.friends(0), 4);
        Due.due("talker: 0, 99, 99", x.talker(), 1);
        Due.due("apart", x.apart(), 0);
        x.cross(6);
        Due.due("broken: b and c talked", x.about(3), 3);
        Due.due("knowing: b alone heard both", x.knowing(), 2);
        Due.due("talker: of like ones the first", x.talker(), 0);
        Due.due("mute", x.mute(), 2);
        TalkBridge none = new TalkBridge();
        Due.due("talker", none.talker(), -1);
        Due.due("mute", none.mute(), 0);
        Due.due("knowing", none.knowing(), 0);
        Due.due("apart", none.apart(), 0);
    }

    private static void single() {
        TalkBridge x = Due.river("person a pace 2;person b pace 1 over;person c pace 4;person d pace 1;say a to c 50;bridge 9;toll 5;turns 100;");
        Due.due("5, 3 and 9", x.single(), 17);
        TalkBridge late = Due.river("person a pace 1;person b pace 2;long 4 + minute;");
        // the one takes 4, the next (4 + 4) / 2
        Due.due("the minute goes on", late.single(), 8);
        TalkBridge order = Due.river("person b pace 2;person a pace 1;long 4 + minute;");
        // the one takes 4 / 2, the next 4 + 2
        Due.due("in order", order.single(), 8);
        TalkBridge cut = Due.river("person b pace 4;person a pace 1;long 5 + minute * 3;");
        Due.due("2 and 11", cut.single(), 13);
        Due.due("nothing is done", cut.about(5), 0);
        Due.due("nobody", new TalkBridge().single(), 0);
    }

    private static void odds() {
        TalkBridge x = Due.river("turns 70;");
        int[] upper = {1, 3, 9, 27, 81};
        int[] lower = {1, 10, 100, 1000, 10000};
        for (int n = 0; n <= 4; n++) {
            Due.due("odds(" + n + ", 0)", x.odds(n, 0), upper[n]);
            Due.due("odds(" + n + ", 1)", x.odds(n, 1), lower[n]);
        }
        Due.due("odds(5, 0)", x.odds(5, 0), -1);
        Due.due("odds(-1, 0)", x.odds(-1, 0), -1);
        Due.due("odds(1, 2)", x.odds(1, 2), -1);
        Due.due("odds(1, -1)", x.odds(1, -1), -1);
        TalkBridge all = Due.river("turns 100;");
        Due.due("0 of", all.odds(3, 0), 0);
        Due.due("1", all.odds(3, 1), 1);
        Due.due("1 of", all.odds(0, 0), 1);
        Due.due("1", all.odds(0, 1), 1);
        TalkBridge never = Due.river("turns 0;");
        Due.due("1 of", never.odds(4, 0), 1);
        Due.due("1", never.odds(4, 1), 1);
        TalkBridge most = Due.river("turns 1;");
        Due.due("99 to the fourth", most.odds(4, 0), 96059601);
        Due.due("100 to the fourth", most.odds(4, 1), 100000000);
    }

    private static void timed() {
        // TIMES: a 4, b 2, c 1, a b 7, a c 4, b c 2, all 7; d is over
        TalkBridge x = Due.river("person a pace 1;person b pace 2;person c pace 4;person d pace 1 over;say a to b 3;bridge 4;");
        Due.due("all GROUPS", x.fits(0), 7);
        Due.due("each is in 4 of 7", x.ask(0, 0), 0);
        Due.due("left at the most", x.ask(1, 0), 4);
        Due.due("later(5)", x.later(5), 5);
        Due.due("took", x.took(3, true), 0);
        Due.due("fits(4): not told yet", x.fits(4), 7);
        Due.due("fits(5): a, a b, a c, all", x.fits(5), 4);
        Due.due("fits(-1)", x.fits(-1), 7);
        Due.due("fits at int's most", x.fits(Integer.MAX_VALUE), 4);
        Due.due("sure(0, 5)", x.sure(0, 5), 1);
        Due.due("sure(1, 5)", x.sure(1, 5), -2);
        Due.due("sure(3, 5)", x.sure(3, 5), 0);
        Due.due("sure(4, 5)", x.sure(4, 5), -1);
        Due.due("sure(-1, 5)", x.sure(-1, 5), -1);
        Due.due("ask(0, 5)", x.ask(0, 5), 1);
        Due.due("ask(1, 5)", x.ask(1, 5), 2);
        Due.due("ask(2, 5)", x.ask(2, 5), -1);
        x.later(2);
        Due.due("took not", x.took(7, false), 1);
        Due.due("fits(7): a, a c", x.fits(7), 2);
        Due.due("untell", x.untell(0), true);
        Due.due("untell twice", x.untell(0), false);
        Due.due("fits(7): all but a b, all", x.fits(7), 5);
        Due.due("fits(6): as it was known", x.fits(6), 4);
        x.later(1);
        Due.due("was", x.was(1, true), 2);
        Due.due("fits(8): b, b c", x.fits(8), 2);
        Due.due("were", x.were(2, false), 3);
        Due.due("fits(8): b", x.fits(8), 1);
        Due.due("sure(2, 8)", x.sure(2, 8), 0);
        Due.due("of like ones the first", x.ask(0, 8), 0);
        Due.due("left", x.ask(1, 8), 1);
        Due.due("were", x.were(1, true), 4);
        Due.due("fits(8)", x.fits(8), 1);
        Due.due("was not", x.was(1, false), 5);
        Due.due("none fits", x.fits(8), 0);
        Due.due("sure", x.sure(1, 8), -1);
        Due.due("ask", x.ask(0, 8), -1);
        Due.due("ask", x.ask(1, 8), -1);
        Due.due("known before", x.fits(7), 5);
        Due.due("about(9)", x.about(9), 6);
        Due.due("about(10)", x.about(10), 8);
        Due.due("untell(6)", x.untell(6), false);
        Due.due("untell(-1)", x.untell(-1), false);
        Due.due("untell at once", x.untell(5), true);
        Due.due("counts no more", x.fits(8), 1);
        Due.due("those UNTOLD are TIMED still", x.about(9), 6);
        x.cross(2);
        Due.due("by what is now b is not near", x.fits(8), 0);
        TalkBridge room = Due.river("person a pace 1;person b pace 1;bridge 3 room 1;");
        Due.due("room counts", room.fits(0), 2);
    }

    private static void timedLimits() {
        TalkBridge anew = Due.river("person a pace 1;");
        anew.took(5, true);
        anew.river();
        Due.due("nothing is TIMED behind river()", anew.untell(0), false);
        TalkBridge x = Due.river("person a pace 1;");
        Due.due("took(0)", x.took(0, true), -1);
        Due.due("took(10000)", x.took(10000, true), -1);
        Due.due("took(-1)", x.took(-1, false), -1);
        Due.due("were(0)", x.were(0, true), -1);
        Due.due("were(8)", x.were(8, true), -1);
        Due.due("was(1)", x.was(1, true), -1);
        Due.due("was(-1)", x.was(-1, true), -1);
        Due.due("took(9999)", x.took(9999, false), 0);
        Due.due("were(7)", x.were(7, false), 1);
        for (int i = 2; i < 30; i++) {
            Due.due("was " + i, x.was(0, true), i);
        }
        x.untell(4);
        Due.due("30 are there", x.was(0, true), -1);
        Due.due("30 are there", x.took(1, true), -1);
        Due.due("30 are there", x.were(1, true), -1);
        Due.due("untell(29)", x.untell(29), true);
        Due.due("untell(30)", x.untell(30), false);
        Due.due("fits", x.fits(0), 1);
        Due.due("later(-1)", x.later(-1), -1);
        Due.due("later(1001)", x.later(1001), -1);
        Due.due("later(0)", x.later(0), 0);
        for (int i = 1; i <= 99; i++) {
            x.later(1000);
        }
        Due.due("later(999)", x.later(999), 99999);
        Due.due("later(2)", x.later(2), -1);
        Due.due("later(1)", x.later(1), 100000);
        Due.due("later(1)", x.later(1), -1);
        Due.due("later(0)", x.later(0), 100000);
        Due.due("about(10)", x.about(10), 100000);
    }

    private static void images() {
        TalkBridge x = Due.river("person a pace 1 coins 9;person b pace 1;say a to b 9 lie;bridge 4 bears 8 mends 7;draw 5;");
        Due.due("nothing was kept", x.back(0), -1);
        Due.due("image(0)", x.image(0), 0);
        Due.due("image(3)", x.image(3), -1);
        Due.due("image(-1)", x.image(-1), -1);
        x.hand(0, 1, 2);
        Due.due("cross(1)", x.cross(1), 4);
        Due.due("image(1)", x.image(1), 4);
        x.cross(1);
        x.cross(3);
        Due.due("image(2)", x.image(2), 8);
        Due.due("an image is no ACT", x.about(7), 4);
        x.took(2, true);
        x.later(3);
        x.soonest();
        Due.due("back(1)", x.back(1), 4);
        Due.due("no ACTS are kept", x.about(7) + x.about(8), 0);
        Due.due("undo", x.undo(), false);
        Due.due("BANKS", x.about(2), 1);
        Due.due("SAID", x.about(3), 0);
        Due.due("HEARD", x.person(0, 3), 0);
        Due.due("whole", x.about(4), 0);
        Due.due("SEED", x.about(6), 756);
        Due.due("coins", x.person(0, 1), 7);
        Due.due("what is TIMED stays", x.about(9), 1);
        Due.due("the TIME of telling stays", x.about(10), 3);
        Due.due("what lies there stays", x.about(13), 2);
        Due.due("back(2)", x.back(2), 8);
        Due.due("broken", x.about(4), 1);
        Due.due("HEARD", x.person(1, 3), 1);
        Due.due("mend", x.mend(), 15);
        Due.due("undo goes back to the image", x.undo(), true);
        Due.due("broken", x.about(4), 1);
        Due.due("minute", x.about(5), 8);
        Due.due("undo", x.undo(), false);
        Due.due("back(0)", x.back(0), 0);
        Due.due("back(0) again", x.back(0), 0);
        Due.due("nothing to redo", x.redo(), false);
        Due.due("coins", x.person(0, 1), 9);
        x.cross(1);
        Due.due("kept anew", x.image(0), 4);
        x.cross(2);
        Due.due("back(0)", x.back(0), 4);
        Due.due("back(3)", x.back(3), -1);
        Due.due("back(-1)", x.back(-1), -1);
        Due.due("back(32)", x.back(32), -1);
    }
}
