import java.util.function.ToIntFunction;

/** The boundaries that the document names for what is, and for what is done: its part 2, promises 6 to 14, 49 and 50. */
final class BoundaryActs {
    /** No number of a PERSON, a MATTER, a BOX, a BANK; a shift by 32 or 33 would be one by 0 or 1. */
    static final int[] NO_NUMBER = {-1, -32, -31, 12, 31, 32, 33, 64, Integer.MIN_VALUE, Integer.MAX_VALUE};
    /** No set of two PERSONS: nobody, one who is not there, and all of them with one who is not there. */
    static final int[] NO_SET_OF_TWO = {0, 4, 5, 7, 8, 128, 1 << 30, -1, -2, -128, Integer.MIN_VALUE, Integer.MIN_VALUE | 1,
        Integer.MAX_VALUE};

    private BoundaryActs() {
    }

    static void all() {
        groups();
        talk();
        lengths();
        formulas();
        times();
        tolls();
        crossing();
        breaking();
        seeds();
        mending();
        handing();
        comingUp();
        undoing();
        keptActs();
        lookups();
        images();
        backs();
    }

    private static String persons(int many, String more) {
        StringBuilder text = new StringBuilder();
        for (int i = 0; i < many; i++) {
            text.append("person ").append((char) ('a' + i)).append(" pace 1").append(more).append(";");
        }
        return text.toString();
    }

    private static void groups() {
        Sentences.sentence("A GROUP are PERSONS (one at least, as many as there is room at most) on one BANK.");
        TalkBridge seven = Due.river(persons(7, ""));
        Due.due("all seven", seven.group(127, 3), 3);
        Due.due("one", seven.group(64, 3), 3);
        Due.due("nobody", seven.group(0, 3), -1);
        Due.due("an eighth", seven.group(128, 3), -1);
        Due.due("an eighth with them", seven.group(255, 3), -1);
        for (int room = 1; room <= 7; room++) {
            TalkBridge x = Due.river(persons(7, "") + "bridge 3 room " + room + ";");
            Due.due("as many as there is room", x.group((1 << room) - 1, 3), 3);
            Due.due("as many, others", x.group(127 & -1 << 7 - room, 3), 3);
            if (room < 7) {
                Due.due("one more", x.group((1 << room + 1) - 1, 3), -1);
                Due.due("one more can't cross", x.cross((1 << room + 1) - 1), -1);
            }
        }
        TalkBridge far = Due.river(persons(2, "") + "person c pace 1 over;person d pace 1 over;");
        Due.due("near", far.group(3, 3), 3);
        Due.due("far", far.group(12, 3), 3);
        for (int set : new int[] {5, 6, 9, 10, 7, 11, 13, 14, 15}) {
            Due.due("on two BANKS: " + set, far.group(set, 3), -1);
        }
        Sentences.sentence("5: what it TALKS, as bits; NONE if it can't be one, or for another what.");
        TalkBridge two = Due.river(persons(2, "") + "say a to b 1;");
        Due.due("group(3, 5)", two.group(3, 5), 1);
        for (int set : NO_SET_OF_TWO) {
            for (int what = 0; what <= 5; what++) {
                Due.due("group(" + set + ", " + what + ")", two.group(set, what), -1);
            }
        }
        for (int what : new int[] {-1, 6, 7, Integer.MIN_VALUE, Integer.MAX_VALUE}) {
            Due.due("group(3, " + what + ")", two.group(3, what), -1);
        }
    }

    private static void talk() {
        Sentences.sentence("What they TALK: each MATTER not SAID yet of one of them to another one of them;");
        TalkBridge x = Due.river(persons(3, "") + "say a to b 1;say b to c 0;say c to a 2 lie;say b to a 4;");
        Due.due("one alone", x.group(1, 5), 0);
        Due.due("a and b", x.group(3, 5), 9);
        Due.due("b and c: what has no words", x.group(6, 5), 2);
        Due.due("a and c", x.group(5, 5), 4);
        Due.due("all", x.group(7, 5), 15);
        Due.due("WORDS are of no lies", x.group(7, 0), 5);
        Due.due("LIES are of lies", x.group(7, 1), 2);
        x.cross(3);
        Due.due("SAID already", x.group(3, 5), 0);
        x.cross(3);
        Due.due("what is not SAID yet", x.group(7, 5), 6);
    }

    private static void length(String formula, int length) {
        Due.due("LENGTH by long " + formula, Due.river("person a pace 1;long " + formula + ";").group(1, 2), length);
    }

    private static void lengths() {
        Sentences.sentence("LENGTH: what comes of long (steps + words - lies, if it is not told) by steps (of the bridge), words, lies, "
            + "many (how many they are), length 0, minute (0 at first;");
        String said = persons(2, "") + "say a to b 6;say b to a 4 lie;bridge 9;";
        Due.due("not told", Due.river(said).group(3, 2), 11);
        Due.due("not told, of one", Due.river(said).group(1, 2), 9);
        Due.due("told", Due.river(said + "long steps * 1000 + words * 100 + lies * 10 + many;").group(3, 2), 9642);
        Due.due("length is 0", Due.river(said + "long 7 + length;").group(3, 2), 7);
        TalkBridge minutes = Due.river(said + "long 5 + minute;");
        Due.due("minute is 0 at first", minutes.cross(3), 5);
        Due.due("then as many as went by", minutes.cross(3), 10);
        Due.due("then as many as went by", minutes.group(3, 2), 20);
        Sentences.sentence("1 at least, 9,999 at most.");
        length("0 - 9999", 1);
        length("0 - 1", 1);
        length("0", 1);
        length("1", 1);
        length("2", 2);
        length("9998", 9998);
        length("9999", 9999);
        length("9999 + 1", 9999);
        length("9999 * 9999", 9999);
        Due.due("more lies than steps", Due.river(persons(2, "") + "say a to b 3 lie;").group(3, 2), 1);
        Due.due("far more lies than steps", Due.river(persons(2, "") + "say a to b 99 lie;").group(3, 2), 1);
    }

    private static void formulas() {
        Sentences.sentence("ints, wrapping; / cut, % its rest, both by 0: 0; relations, and, or, not are 1 or 0, of what is not 0),");
        // 8192 * 8192 * 32 is one more than the greatest int: the least
        length("(8192 * 8192 * 32 < 0) + 1", 2);
        length("8192 * 8192 * 32 - 1 - 8192 * 8192 * 32 + 8", 7);
        length("(8192 * 8192 * 32 - 1 > 0) + 1", 2);
        length("8192 * 8192 * 64 + 5", 5);
        length("(8192 * 8192 * 32 / (0 - 1) = 8192 * 8192 * 32) + 1", 2);
        length("8192 * 8192 * 32 % (0 - 1) + 5", 5);
        length("7 / 2", 3);
        length("10 + (0 - 7) / 2", 7);
        length("10 + 7 / (0 - 2)", 7);
        length("10 + 7 % 2", 11);
        length("10 + (0 - 7) % 2", 9);
        length("10 + 7 % (0 - 2)", 11);
        length("5 + 7 / 0", 5);
        length("5 + 7 % 0", 5);
        length("5 + 0 / 0", 5);
        length("5 + 7 / lies", 5);
        length("5 + 7 % minute", 5);
        length("5 + (1 < 2) + (2 < 2) * 10 + (3 < 2) * 10", 6);
        length("5 + (2 > 1) + (2 > 2) * 10 + (2 > 3) * 10", 6);
        length("5 + (2 = 2) + (2 = 1) * 10 + (1 = 2) * 10", 6);
        length("5 + (0 - 1 < 0) + (0 > 0 - 1)", 7);
        length("5 + (7 and 9) + (0 - 7 and 9) + (0 and 9) * 10 + (9 and 0) * 10", 7);
        length("5 + (7 or 0) + (0 or 0 - 7) + (9 or 9) + (0 or 0) * 10", 8);
        length("5 + (not 0) + (not 7) * 10 + (not 0 - 7) * 10", 6);
    }

    private static void times() {
        Sentences.sentence("TIME of a GROUP: its LENGTH by the pace of the slowest one, up to whole minutes.");
        int[][] lengthPaceTime = {{1, 1, 1}, {1, 9, 1}, {8, 9, 1}, {9, 9, 1}, {10, 9, 2}, {18, 9, 2}, {19, 9, 3}, {9999, 1, 9999},
            {9999, 9, 1111}, {9998, 9, 1111}, {9991, 9, 1111}, {9990, 9, 1110}};
        for (int[] row : lengthPaceTime) {
            TalkBridge x = Due.river("person a pace " + row[1] + ";long " + row[0] + ";");
            Due.due("LENGTH " + row[0] + " by pace " + row[1], x.group(1, 3), row[2]);
        }
        TalkBridge slow = Due.river("person a pace 9;person b pace 2;person c pace 3;long 18;");
        Due.due("9", slow.group(1, 3), 2);
        Due.due("9 and 3", slow.group(5, 3), 6);
        Due.due("9, 2 and 3", slow.group(7, 3), 9);
    }

    private static void toll(String formula, int toll) {
        Due.due("TOLL by toll " + formula, Due.river("person a pace 1;toll " + formula + ";").group(1, 4), toll);
    }

    private static void tolls() {
        Sentences.sentence("TOLL: what comes of toll (0, if it is not told) by the same, length (its LENGTH), 0 at least, 999 at most, to be paid by each.");
        Due.due("not told", Due.river("person a pace 1;").group(1, 4), 0);
        toll("0 - 9999", 0);
        toll("0 - 1", 0);
        toll("0", 0);
        toll("1", 1);
        toll("998", 998);
        toll("999", 999);
        toll("999 + 1", 999);
        toll("9999 * 9999", 999);
        toll("9999 * 9999 * 30", 0);
        toll("length", 3);
        TalkBridge x = Due.river(persons(3, " coins 50") + "say a to b 6;say b to a 4 lie;bridge 9;long 0 - 5;"
            + "toll length * 100 + steps * 10 + many;");
        Due.due("its LENGTH is 1 at least", x.group(3, 4), 192);
        TalkBridge minutes = Due.river(persons(2, " coins 50") + "toll minute + many;");
        minutes.cross(3);
        Due.due("each paid two", minutes.person(0, 1), 48);
        Due.due("each paid two", minutes.person(1, 1), 48);
        Due.due("by the minute", minutes.group(1, 4), 4);
    }

    private static void crossing() {
        Sentences.sentence("ACTS: a GROUP CROSSES, if the bridge is whole, and each has coins for the TOLL: each pays it; "
            + "it TALKS (all of that is SAID, each of them HEARS all of it);");
        TalkBridge x = Due.river("person a pace 1 coins 5;person b pace 1 coins 4;person c pace 1 coins 6;say a to c 2;toll 5;");
        Photo.refused(x, "one coin is lacking", y -> y.cross(2), -1);
        Photo.refused(x, "one coin is lacking to one of them", y -> y.cross(3), -1);
        Due.due("as many as it is, and one more", x.cross(5), 5);
        Due.due("none is left", x.person(0, 1), 0);
        Due.due("one is left", x.person(2, 1), 1);
        Due.due("who stays pays nothing", x.person(1, 1), 4);
        Due.due("SAID", x.about(3), 1);
        Due.due("HEARD", x.person(0, 3) + x.person(2, 3), 2);
        Due.due("who stays hears nothing", x.person(1, 3), 0);
        Photo.refused(x, "none is left", y -> y.cross(1), -1);
        Sentences.sentence("A GROUP CROSSES: its TIME; 0 if they are turned back; -2 if it BREAKS; NONE, doing nothing, if it can't. (An ACT.)");
        String two = persons(2, "") + "say a to b 21 lie;turns 72;";
        for (int set : NO_SET_OF_TWO) {
            Photo.refused(Due.river(two), "cross(" + set + ")", y -> y.cross(set), -1);
        }
        TalkBridge z = Due.river(two);
        Due.due("71 is below 72", z.cross(1), 0);
        Due.due("798: 98 is not", z.cross(1), 3);
        Photo.refused(z, "on two BANKS", y -> y.cross(3), -1);
        Due.due("397: 97 is not", z.cross(1), 3);
        Due.due("it breaks", z.cross(3), -2);
        Due.due("four ACTS", z.about(7), 4);
        Photo.refused(z, "it is broken", y -> y.cross(1), -1);
        Due.due("nobody can, of none", new TalkBridge().cross(1), -1);
    }

    private static void breaking() {
        Sentences.sentence("if LIES are more than the bridge bears, it BREAKS (nobody is over, no minutes go by, no draw);");
        String lies = persons(2, " coins 9") + "say a to b 15 lie;say b to a 5 lie;say a to b 90;toll 2;draw 3;bridge 9 bears ";
        TalkBridge bears = Due.river(lies + "20;");
        Due.due("as many as it bears", bears.cross(3), 79);
        Due.due("over", bears.about(2), 3);
        TalkBridge x = Due.river(lies + "19;");
        Due.due("one more than it bears", x.cross(3), -2);
        Due.due("broken", x.about(4), 1);
        Due.due("nobody is over", x.about(2), 0);
        Due.due("no minutes", x.about(5), 0);
        Due.due("no draw", x.about(6), 3);
        Due.due("paid", x.person(0, 1) + x.person(1, 1), 14);
        Due.due("SAID", x.about(3), 7);
        Due.due("HEARD", x.person(0, 3), 7);
        TalkBridge none = Due.river(persons(2, "") + "say a to b 0 lie;bridge 9 bears 0;");
        Due.due("0 is not more than 0", none.cross(3), 9);
        TalkBridge most = Due.river(persons(2, "") + "say a to b 99 lie;".repeat(11) + "bridge 9 bears 999;");
        Due.due("1089 is more than 999", most.cross(3), -2);
    }

    private static void seeds() {
        Sentences.sentence("else the SEED (draw, at first) becomes its 137-fold and 71 more, modulo 1,000; as many minutes go by as its TIME is; "
            + "if the SEED's rest by 100 is less than turns tells, they are turned back, else they are on the other BANK.");
        int[][] drawSeed = {{0, 71}, {999, 934}, {998, 797}, {1, 208}, {500, 571}, {7, 30}};
        for (int[] row : drawSeed) {
            TalkBridge x = Due.river("person a pace 1;draw " + row[0] + ";");
            Due.due("draw at first", x.about(6), row[0]);
            x.cross(1);
            Due.due("the SEED behind " + row[0], x.about(6), row[1]);
        }
        // 44 becomes 6099: 99; 17 becomes 2400: 400; 0 becomes 71
        int[][] drawTurnsOver = {{44, 100, 0}, {44, 99, 1}, {17, 0, 1}, {17, 1, 0}, {0, 71, 1}, {0, 72, 0}, {0, 100, 0}, {0, 0, 1}};
        for (int[] row : drawTurnsOver) {
            TalkBridge x = Due.river("person a pace 1;draw " + row[0] + ";turns " + row[1] + ";");
            Due.due("draw " + row[0] + " turns " + row[1], x.cross(1), row[2] * 3);
            Due.due("over", x.person(0, 2), row[2]);
            Due.due("minutes went by", x.about(5), 3);
            Due.due("an ACT", x.about(7), 1);
        }
        TalkBridge back = Due.river(persons(2, " over"));
        Due.due("from the far BANK to the other", back.cross(2), 3);
        Due.due("near", back.about(2), 1);
    }

    private static TalkBridge broken() {
        TalkBridge x = Due.river(persons(2, " coins 9") + "say a to b 21 lie;bridge 3 mends 7;");
        x.cross(1);
        x.cross(1);
        x.cross(3);
        return x;
    }

    private static void mending() {
        Sentences.sentence("It is mended: the minute; NONE, doing nothing, if it is whole. (An ACT.)");
        TalkBridge x = broken();
        Due.due("6 went by, and 7", x.mend(), 13);
        Due.due("four ACTS", x.about(7), 4);
        x.undo();
        x.redo();
        x.cross(1);
        x.undo();
        Photo.refused(x, "whole", TalkBridge::mend, -1);
        Due.due("what was taken back is kept", x.redo(), true);
        Due.due("whole at first", new TalkBridge().mend(), -1);
    }

    private static void handing() {
        Sentences.sentence("One hands another one on his BANK coins (999 at most then).");
        TalkBridge x = Due.river("person a pace 1 coins 500;person b pace 1 coins 600;");
        Photo.refused(x, "1000", y -> y.hand(0, 1, 400), -1);
        Due.due("999", x.hand(0, 1, 399), 999);
        Photo.refused(x, "1000", y -> y.hand(0, 1, 1), -1);
        Due.due("his", x.person(0, 1), 101);
        Sentences.sentence("Coins (1 .. his) are handed over: how many the other one has; NONE, doing nothing, if they are on two BANKS, "
            + "he would have more than 999, both are one, or one can't be. (An ACT.)");
        String four = "person a pace 1 coins 7;person b pace 1;person c pace 1 coins 999 over;person d pace 1 over;";
        for (int coins : new int[] {0, -1, 8, 1000, Integer.MIN_VALUE, Integer.MAX_VALUE}) {
            Photo.refused(Due.river(four), "hand(0, 1, " + coins + ")", y -> y.hand(0, 1, coins), -1);
        }
        TalkBridge z = Due.river(four);
        Photo.refused(Due.river(four), "he has none", y -> y.hand(1, 0, 1), -1);
        Photo.refused(Due.river(four), "over the river", y -> y.hand(0, 3, 1), -1);
        Photo.refused(Due.river(four), "over the river, back", y -> y.hand(2, 0, 1), -1);
        Photo.refused(Due.river(four), "to himself", y -> y.hand(0, 0, 1), -1);
        for (int number : NO_NUMBER) {
            Due.due("hand(" + number + ", 1, 1)", z.hand(number, 1, 1), -1);
            Due.due("hand(0, " + number + ", 1)", z.hand(0, number, 1), -1);
        }
        Due.due("hand(0, 4, 1)", z.hand(0, 4, 1), -1);
        Due.due("hand(4, 0, 1)", z.hand(4, 0, 1), -1);
        Due.due("no ACT till now", z.about(7), 0);
        Due.due("1", z.hand(0, 1, 1), 1);
        Due.due("all of his", z.hand(0, 1, 6), 7);
        Due.due("all of 999", z.hand(2, 3, 999), 999);
        Due.due("three ACTS", z.about(7), 3);
    }

    private static void comingUp() {
        Sentences.sentence("A MATTER that was SAID comes up again (is not SAID any more; who HEARD it has).");
        TalkBridge x = Due.river(persons(3, "") + "say a to b 4;say b to c 0;");
        x.cross(3);
        Due.due("again(0)", x.again(0), 3);
        Due.due("not SAID any more", x.matter(0, 4), 0);
        Due.due("HEARD still", x.person(0, 3), 1);
        Due.due("it is talked again", x.group(3, 3), 7);
        x.cross(3);
        x.cross(7);
        Due.due("SAID by all three: who HEARD it at all", x.again(0), 3);
        x.cross(7);
        Due.due("overheard then", x.again(0), 7);
        x.cross(3);
        Due.due("c HEARD it once, and has", x.again(0), 7);
        Due.due("c HEARD it", x.person(2, 3), 3);
        Sentences.sentence("A MATTER comes up again: PERSONS who HEARD it, as bits; NONE, doing nothing, if it is not SAID, or there is none such. (An ACT.)");
        TalkBridge z = Due.river(persons(2, "") + "say a to b 4;say b to a 0;");
        Photo.refused(z, "not SAID", y -> y.again(0), -1);
        z.cross(3);
        Due.due("again(1)", z.again(1), 3);
        Photo.refused(z, "not SAID any more", y -> y.again(1), -1);
        Photo.refused(z, "again(2)", y -> y.again(2), -1);
        for (int number : NO_NUMBER) {
            Due.due("again(" + number + ")", z.again(number), -1);
        }
        Due.due("two ACTS", z.about(7), 2);
    }

    private static void undoing() {
        Sentences.sentence("UNDO: true; false if there is none.");
        TalkBridge x = Due.river(persons(2, " coins 9"));
        String before = Photo.of(x);
        Due.due("undo of none", x.undo(), false);
        Due.due("nothing is done", Photo.of(x).equals(before), true);
        x.hand(0, 1, 3);
        Due.due("undo of one", x.undo(), true);
        Due.due("taken back", x.person(0, 1), 9);
        Due.due("undo of none", x.undo(), false);
        Due.due("what was taken back is kept", x.about(8), 1);
        Sentences.sentence("REDO: true; false if there is none.");
        Due.due("redo of one", x.redo(), true);
        Due.due("done again", x.person(0, 1), 6);
        Due.due("redo of none", x.redo(), false);
        Due.due("still done once", x.person(0, 1), 6);
        Due.due("redo of none", new TalkBridge().redo(), false);
        Sentences.sentence("UNDO takes back the latest ACT that was not, REDO does that again which was taken back last (till another ACT);");
        x.hand(0, 1, 2);
        x.hand(0, 1, 1);
        x.undo();
        x.undo();
        Due.due("the latest that was not", x.person(0, 1), 6);
        x.redo();
        Due.due("taken back last", x.person(0, 1), 4);
        Due.due("one is left to redo", x.about(8), 1);
        Due.due("refused: no ACT", x.hand(0, 1, 99), -1);
        Due.due("an image is no ACT", x.image(0), 0);
        Due.due("one is left to redo still", x.about(8), 1);
        Due.due("another ACT", x.cross(1), 3);
        Due.due("none is left", x.about(8), 0);
        Due.due("none is left", x.redo(), false);
        x.undo();
        Due.due("a is near again", x.about(2), 0);
        Due.due("minute", x.about(5), 0);
        Due.due("SEED", x.about(6), 0);
        Due.due("coins", x.person(0, 1), 4);
        TalkBridge b = broken();
        Due.due("three ACTS", b.about(7), 3);
        b.undo();
        Due.due("whole, not SAID, not HEARD", b.about(4) + b.about(3) + b.person(0, 3), 0);
        b.redo();
        Due.due("broken, SAID, HEARD", b.about(4) + b.about(3) + b.person(0, 3), 3);
        b.mend();
        b.again(0);
        b.undo();
        Due.due("SAID again", b.about(3), 1);
        b.undo();
        Due.due("broken again", b.about(4), 1);
        Due.due("no minutes of mending", b.about(5), 6);
    }

    private static void keptActs() {
        Sentences.sentence("40 at most are kept, the oldest go.");
        TalkBridge forty = Due.river("person a pace 1 coins 99;person b pace 1;");
        for (int i = 1; i <= 40; i++) {
            forty.hand(0, 1, 1);
            Due.due("kept", forty.about(7), i);
        }
        for (int i = 39; i >= 0; i--) {
            Due.due("undo", forty.undo(), true);
        }
        Due.due("all forty are taken back", forty.person(1, 1), 0);
        Due.due("undo", forty.undo(), false);
        Due.due("to redo", forty.about(8), 40);
        TalkBridge more = Due.river("person a pace 1 coins 99;person b pace 1;");
        for (int i = 1; i <= 41; i++) {
            more.hand(0, 1, 1);
        }
        Due.due("41 were done, kept", more.about(7), 40);
        for (int i = 0; i < 40; i++) {
            Due.due("undo", more.undo(), true);
        }
        Due.due("the oldest is gone", more.undo(), false);
        Due.due("what it did is not", more.person(1, 1), 1);
        for (int i = 0; i < 40; i++) {
            Due.due("redo", more.redo(), true);
        }
        Due.due("all are done again", more.person(1, 1), 41);
        Due.due("redo", more.redo(), false);
        more.undo();
        more.hand(0, 1, 5);
        Due.due("another one for the last", more.about(7), 40);
        Due.due("b has", more.person(1, 1), 45);
        more.hand(0, 1, 5);
        Due.due("kept", more.about(7), 40);
        more.undo();
        more.undo();
        Due.due("b has", more.person(1, 1), 40);
    }

    private static void lookups() {
        TalkBridge x = Due.river("person a pace 2 coins 3;person b pace 1 over;person c pace 9;say a to b 5;say b to c 6 lie;say c to a 7;");
        x.cross(5);
        Sentences.sentence("Of a PERSON what 0: pace, 1: coins, 2: 1 on the far BANK, else 0, 3: MATTERS that he HEARD, "
            + "4: MATTERS not SAID yet that are of him or to him, both as bits; NONE if there is none such, or for another what.");
        int[][] persons = {{2, 3, 1, 4, 1}, {1, 0, 1, 0, 3}, {9, 0, 1, 4, 2}};
        for (int i = 0; i < 15; i++) {
            Due.due("person(" + i / 5 + ", " + i % 5 + ")", x.person(i / 5, i % 5), persons[i / 5][i % 5]);
        }
        none("person(3, ", what -> x.person(3, what), 0, 5);
        for (int number : NO_NUMBER) {
            none("person(" + number + ", ", what -> x.person(number, what), 0, 5);
            Due.due("person(0, " + number + ")", x.person(0, number), -1);
        }
        Due.due("person(0, 5)", x.person(0, 5), -1);
        Due.due("person(0, 0) of nobody", new TalkBridge().person(0, 0), -1);
        Sentences.sentence("Of a MATTER what 0: of whom, 1: to whom, 2: words, 3: 1 if it lies, else 0, 4: 1 if it is SAID, else 0, "
            + "5: SECRET, as bits; NONE if there is none such, or for another what.");
        int[][] matters = {{0, 1, 5, 0, 0, 3}, {1, 2, 6, 1, 0, 6}, {2, 0, 7, 0, 1, 5}};
        for (int i = 0; i < 18; i++) {
            Due.due("matter(" + i / 6 + ", " + i % 6 + ")", x.matter(i / 6, i % 6), matters[i / 6][i % 6]);
        }
        none("matter(3, ", what -> x.matter(3, what), 0, 6);
        for (int number : NO_NUMBER) {
            none("matter(" + number + ", ", what -> x.matter(number, what), 0, 6);
            Due.due("matter(0, " + number + ")", x.matter(0, number), -1);
        }
        Due.due("matter(0, 6)", x.matter(0, 6), -1);
        Due.due("matter(0, 0) of none", new TalkBridge().matter(0, 0), -1);
        Sentences.sentence("SECRET of a MATTER: PERSONS who HEARD it, or whom it is of, or to.");
        x.cross(3);
        Due.due("both are of it or to it, and HEARD it", x.matter(0, 5), 3);
        TalkBridge heard = Due.river(persons(4, "") + "say a to b 5;");
        heard.cross(7);
        Due.due("c overheard it, d did not", heard.matter(0, 5), 7);
        heard.again(0);
        Due.due("though it comes up again", heard.matter(0, 5), 7);
    }

    private static void none(String call, java.util.function.IntUnaryOperator made, int from, int to) {
        for (int what = from; what < to; what++) {
            Due.due(call + what + ")", made.applyAsInt(what), -1);
        }
    }

    private static void images() {
        Sentences.sentence("Coins, BANKS, what is SAID, HEARD, whether the bridge is whole, the minute, the SEED are kept in a BOX 0 .. 2: "
            + "the minute; NONE if there is none such.");
        for (int box = 0; box <= 2; box++) {
            int kept = box;
            TalkBridge x = broken();
            x.hand(0, 1, 2);
            Due.due("image(" + box + ")", x.image(box), 6);
            x.mend();
            x.hand(1, 0, 1);
            x.again(0);
            x.cross(2);
            Due.due("back(" + box + ")", x.back(box), 6);
            Due.due("coins", x.person(0, 1) * 100 + x.person(1, 1), 711);
            Due.due("BANKS", x.about(2), 0);
            Due.due("SAID, HEARD", x.about(3) * 10 + x.person(0, 3), 11);
            Due.due("broken", x.about(4), 1);
            Due.due("minute", x.about(5), 6);
            // 0 becomes 71, 71 becomes 798
            Due.due("SEED", x.about(6), 798);
            refusedBack(x, (kept + 1) % 3);
            refusedBack(x, (kept + 2) % 3);
        }
        for (int number : NO_NUMBER) {
            Photo.refused(Due.river(persons(2, "")), "image(" + number + ")", y -> y.image(number), -1);
        }
        Photo.refused(Due.river(persons(2, "")), "image(3)", y -> y.image(3), -1);
        Due.due("image of an empty RIVER", new TalkBridge().image(2), 0);
    }

    private static void refusedBack(TalkBridge x, int box) {
        Photo.refused(x, "back(" + box + ")", y -> y.back(box), -1);
    }

    private static void backs() {
        Sentences.sentence("All is as it was kept (no ACTS are kept then): the minute; NONE, doing nothing, if nothing was.");
        TalkBridge x = Due.river(persons(2, " coins 5"));
        x.hand(0, 1, 1);
        x.hand(0, 1, 1);
        x.undo();
        ToIntFunction<TalkBridge> first = y -> y.back(0);
        Photo.refused(x, "back(0)", first, -1);
        Due.due("image(0)", x.image(0), 0);
        Due.due("an image keeps what can be done again", x.redo(), true);
        x.cross(3);
        x.undo();
        Due.due("back(0)", x.back(0), 0);
        Due.due("no ACTS", x.about(7), 0);
        Due.due("none taken back", x.about(8), 0);
        Due.due("undo", x.undo(), false);
        Due.due("redo", x.redo(), false);
        Due.due("as it was kept", x.person(0, 1), 4);
        x.cross(3);
        Due.due("it stays in the BOX", x.back(0), 0);
        Due.due("nobody is over", x.about(2), 0);
        x.cross(3);
        Due.due("kept anew", x.image(0), 3);
        x.cross(3);
        Due.due("back(0)", x.back(0), 3);
        Due.due("both are over", x.about(2), 3);
        String before = Photo.of(x);
        for (int number : NO_NUMBER) {
            Due.due("back(" + number + ")", x.back(number), -1);
        }
        Due.due("back(3)", x.back(3), -1);
        Due.due("nothing was done", Photo.of(x).equals(before), true);
        x.cross(1);
        x.undo();
        Due.due("undo goes back to what was kept", x.about(5), 3);
        Due.due("and no further", x.undo(), false);
        Due.due("back(0) of a new one", new TalkBridge().back(0), -1);
    }
}
