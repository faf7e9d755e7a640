/** The boundaries that the document names for what is asked: its part 3, and promises 15 to 40 and 51. */
final class BoundaryAnswers {
    private static final int[] NO_CHOICE = {-1, 2, 3, 32, Integer.MIN_VALUE, Integer.MAX_VALUE};

    private BoundaryAnswers() {
    }

    static void all() {
        asNow();
        ways();
        soonest();
        lying();
        silent();
        lantern();
        lanternWays();
        partner();
        hush();
        keep();
        lacks();
        friends();
        split();
        bear();
        ears();
        worth();
        payers();
        longest();
        quiet();
        voice();
        rich();
        frail();
        within();
        talkerAndMute();
        apart();
        knowing();
        single();
        odds();
        about();
    }

    private static String persons(int many, String more) {
        StringBuilder text = new StringBuilder();
        for (int i = 0; i < many; i++) {
            text.append("person ").append((char) ('a' + i)).append(" pace 1").append(more).append(";");
        }
        return text.toString();
    }

    /** All that is asked with nothing done. */
    private static void askAll(TalkBridge x) {
        for (int what = 0; what <= 1; what++) {
            x.silent(what);
            x.lantern(what);
            x.partner(0, what);
            x.hush(3, what);
            x.keep(3, 5, what);
            x.split(3, what);
            x.voice(0, what);
            x.odds(2, what);
            x.ask(what, 0);
            x.payers(what);
            x.longest(what);
            x.quiet(what);
            x.rich(what);
            x.frail(what);
            x.within(what, 5);
        }
        x.soonest();
        x.lacks(3);
        x.friends(0);
        x.bear(3);
        x.ears(1);
        x.worth(3);
        x.talker();
        x.mute();
        x.apart();
        x.knowing();
        x.single();
        x.fits(0);
        x.sure(0, 0);
    }

    private static void asNow() {
        Sentences.sentence("(By what is now; nothing is done; nobody is turned back, the bridge is whole, nobody pays, if not told otherwise.)");
        TalkBridge x = Due.river(persons(2, " coins 1") + "say a to b 4;toll 9;turns 100;");
        x.hand(0, 1, 1);
        x.undo();
        Due.due("they can't pay", x.cross(1), -1);
        Due.due("soonest", x.soonest(), 7);
        Due.due("silent(0)", x.silent(0), 6);
        Due.due("lantern(0)", x.lantern(0), 7);
        Due.due("single", x.single(), 6);
        String before = Photo.of(x);
        askAll(x);
        Due.due("nothing is done", Photo.of(x).equals(before), true);
        Due.due("what was taken back is kept", x.redo(), true);
        TalkBridge broken = Due.river(persons(3, "") + "say a to b 21 lie;say a to c 1;");
        Due.due("it breaks", broken.cross(3), -2);
        Due.due("soonest, as if it were whole", broken.soonest(), 4);
        Due.due("silent(0)", broken.silent(0), 4);
        Due.due("lantern(0)", broken.lantern(0), 4);
        Due.due("lantern(1)", broken.lantern(1), 1);
        Due.due("single", broken.single(), 9);
        Due.due("fits", broken.fits(0), 7);
        Due.due("it is broken still", broken.about(4), 1);
    }

    private static void ways() {
        Sentences.sentence("WAY over: those on the near BANK parted into GROUPS that cross one by one (none comes back; minute as now), "
            + "none whose LIES break the bridge.");
        TalkBridge bears = Due.river(persons(2, "") + "say a to b 20 lie;bridge 50;");
        Due.due("as much as it bears: soonest", bears.soonest(), 30);
        Due.due("silent(0)", bears.silent(0), 30);
        Due.due("silent(1)", bears.silent(1), 1);
        TalkBridge breaks = Due.river(persons(2, "") + "say a to b 21 lie;bridge 50;");
        Due.due("one more: soonest", breaks.soonest(), -1);
        Due.due("silent(0)", breaks.silent(0), 100);
        Due.due("silent(1)", breaks.silent(1), 2);
        TalkBridge late = Due.river(persons(3, "") + "long 2 + minute;bridge 1 room 1;");
        late.cross(1);
        Due.due("minute as now: soonest", late.soonest(), 8);
        Due.due("silent(0)", late.silent(0), 8);
        Sentences.sentence("SOONEST: that by which all MATTERS not SAID yet among those on the near BANK are SAID, and the TIMES together are least.");
        TalkBridge far = Due.river(persons(2, "") + "person c pace 1 over;say a to c 90;say c to b 90;");
        Due.due("what is to be said over the river does not count", far.soonest(), 3);
        TalkBridge said = Due.river(persons(2, "") + "say a to b 40;");
        Due.due("not SAID", said.soonest(), 43);
        said.cross(3);
        said.cross(3);
        Due.due("SAID", said.soonest(), 3);
        said.again(0);
        Due.due("it came up again", said.soonest(), 43);
    }

    private static void soonest() {
        Sentences.sentence("SOONEST: minutes (0 if nobody is on the near BANK); NONE if there is none.");
        Due.due("of an empty RIVER", new TalkBridge().soonest(), 0);
        TalkBridge over = Due.river(persons(2, " over") + "say a to b 1;");
        Due.due("nobody is near", over.soonest(), 0);
        over.cross(1);
        Due.due("one is", over.soonest(), 3);
        TalkBridge room = Due.river(persons(3, "") + "say a to b 1;say b to c 1;bridge 3 room 2;");
        Due.due("no room for what is to be said", room.soonest(), -1);
        TalkBridge enough = Due.river(persons(3, "") + "say a to b 1;say b to c 1;bridge 3 room 3;");
        Due.due("room for it", enough.soonest(), 5);
        TalkBridge lies = Due.river(persons(2, "") + "say a to b 1 lie;bridge 3 bears 0;");
        Due.due("it would break", lies.soonest(), -1);
    }

    private static void lies(TalkBridge x, int... numbers) {
        Due.due("about(13)", x.about(13), numbers.length);
        for (int i = 0; i < numbers.length; i++) {
            Due.due("lies(" + i + ")", x.lies(i), numbers[i]);
        }
        for (int i : new int[] {numbers.length, numbers.length + 1, 7, 8, -1, Integer.MIN_VALUE, Integer.MAX_VALUE}) {
            Due.due("lies(" + i + ")", x.lies(i), i < 0 || i >= numbers.length ? -2 : numbers[i]);
        }
    }

    private static void laid(String text, int... numbers) {
        TalkBridge x = Due.river(text);
        x.soonest();
        lies(x, numbers);
    }

    private static void lying() {
        Sentences.sentence("How GROUPS are made lies there then: for each PERSON the number of his GROUP (the first PERSON's is 0, "
            + "the next that is another one 1, ..; NONE: on the far BANK; of like ones the first PERSON by PERSON; behind NONE: nothing).");
        laid(persons(7, ""), 0, 0, 0, 0, 0, 0, 0);
        laid(persons(7, "") + "bridge 3 room 1;", 0, 1, 2, 3, 4, 5, 6);
        laid("person a pace 1 over;person b pace 1;person c pace 1 over;person d pace 1;bridge 3 room 1;", -1, 0, -1, 1);
        laid(persons(2, " over"), -1, -1);
        laid("draw 1;");
        // of like ones: by long many * 2 all partings take as long
        laid(persons(3, "") + "long many * 2;", 0, 0, 0);
        laid(persons(3, "") + "long many * 2;bridge 1 room 2;", 0, 0, 1);
        laid(persons(4, "") + "long many * 2;bridge 1 room 2;", 0, 0, 1, 1);
        laid(persons(4, "") + "long many * 2;bridge 1 room 3;", 0, 0, 0, 1);
        // two who are slow go together
        laid("person a pace 2;person b pace 1;person c pace 1;long 6;bridge 1 room 2;", 0, 1, 1);
        laid("person a pace 1;person b pace 2;person c pace 1;long 6;bridge 1 room 2;", 0, 1, 0);
        laid("person a pace 1;person b pace 1;person c pace 2;long 6;bridge 1 room 2;", 0, 0, 1);
        TalkBridge x = Due.river(persons(2, "") + "say a to b 21 lie;");
        Due.due("there is none", x.soonest(), -1);
        lies(x);
        x.cross(3);
        Due.due("there is one", x.soonest(), 3);
        lies(x, 0, 0);
        x.again(0);
        Due.due("there is none again", x.soonest(), -1);
        lies(x);
        Sentences.sentence("The i-th number of what lies there; -2 if there is none such.");
        TalkBridge one = Due.river(persons(3, "") + "bridge 3 room 2;");
        Due.due("nothing lies there at first", one.lies(0), -2);
        one.soonest();
        lies(one, 0, 0, 1);
        one.cross(1);
        one.silent(0);
        lies(one, 0, 0, 1);
        Due.due("nothing in a new one", new TalkBridge().lies(0), -2);
    }

    private static void silent() {
        Sentences.sentence("SILENT: that by which the TIMES together are least, whatever is SAID; of like ones the fewest GROUPS.");
        TalkBridge x = Due.river(persons(3, "") + "say a to b 30;");
        Due.due("a with c, b: minutes", x.silent(0), 6);
        Due.due("GROUPS", x.silent(1), 2);
        TalkBridge like = Due.river(persons(3, "") + "long many * 2;");
        Due.due("minutes", like.silent(0), 6);
        Due.due("1, 2 or 3 GROUPS", like.silent(1), 1);
        TalkBridge room = Due.river(persons(3, "") + "long many * 2;bridge 1 room 2;");
        Due.due("2 or 3 GROUPS", room.silent(1), 2);
        // a b, c, d, which come first, take 9 as well as a c, b d
        TalkBridge later = Due.river(persons(4, "") + "say c to d 30;say a to d 30;say b to c 30;say b to d 3;");
        Due.due("minutes", later.silent(0), 9);
        Due.due("the fewest come later", later.silent(1), 2);
        Sentences.sentence("SILENT what 0: minutes, 1: how many GROUPS; NONE if there is none, or for another what.");
        for (int what : NO_CHOICE) {
            Due.due("silent(" + what + ")", x.silent(what), -1);
        }
        Due.due("nobody: minutes", new TalkBridge().silent(0), 0);
        Due.due("nobody: GROUPS", new TalkBridge().silent(1), 0);
        TalkBridge over = Due.river(persons(2, " over"));
        Due.due("nobody is near: minutes", over.silent(0), 0);
        Due.due("nobody is near: GROUPS", over.silent(1), 0);
        TalkBridge seven = Due.river(persons(7, "") + "long 9999;bridge 1 room 1;");
        Due.due("the most minutes", seven.silent(0), 69993);
        Due.due("the most GROUPS", seven.silent(1), 7);
    }

    private static void lantern(String text, int minutes, int crossings) {
        TalkBridge x = Due.river(text);
        Due.due("lantern(0)", x.lantern(0), minutes);
        Due.due("lantern(1)", x.lantern(1), crossings);
    }

    private static void lantern() {
        Sentences.sentence("LANTERN what 0: minutes, 1: how many CROSSINGS; NONE if it can't be, or for another what.");
        TalkBridge x = Due.river(persons(2, ""));
        for (int what : NO_CHOICE) {
            Due.due("lantern(" + what + ")", x.lantern(what), -1);
        }
        lantern("draw 1;", 0, 0);
        lantern(persons(2, " over"), 0, 0);
        lantern(persons(2, "") + "bridge 3 room 1;", -1, -1);
        lantern(persons(1, "") + "bridge 3 room 1;", 3, 1);
        lantern(persons(2, "") + "say a to b 21 lie;bridge 50;", -1, -1);
        lantern(persons(2, "") + "say a to b 20 lie;bridge 50;", 30, 1);
        // two over, one back, each time: 5 times to, 5 back, and the last two
        lantern(persons(7, "") + "long 9999;bridge 1 room 2;", 11 * 9999, 11);
    }

    private static void lanternWays() {
        Sentences.sentence("LANTERN: all who are on the near BANK are to be over, GROUPS to and fro by turns with one lantern, which is there at first "
            + "(a GROUP TALKS what is not SAID now, each time, minute as now; none whose LIES break the bridge; those who are over already may help, "
            + "and be on either BANK in the end): the least TIMES together; of like ones the fewest CROSSINGS.");
        String four = "person a pace 8;person b pace 4;person c pace 2;person d pace 1;bridge 8 room 2;";
        // 1, 2, 4 and 8 minutes: a b over 2, a back 1, c d over 8, b back 2, a b over 2
        lantern(four, 15, 5);
        // a b together take 4 each time: a goes with each other one, 4 + 1 + 4 + 1 + 8
        lantern(four + "say a to b 8;", 18, 5);
        // room for one: c comes back for the other one, and stays there
        lantern(persons(2, "") + "person c pace 1 over;bridge 3 room 1;", 9, 3);
        // a and b would break it: one of them alone, c or he back, and the other one with him
        lantern(persons(2, "") + "person c pace 1 over;say a to b 21 lie;", 9, 3);
        lantern(persons(2, "") + "person c pace 1 over;say a to b 90;", 9, 3);
        // all at once take 3, as three CROSSINGS would
        lantern(persons(3, "") + "say a to b 2;bridge 1;", 3, 1);
        lantern(persons(3, "") + "say a to b 3;bridge 1;", 3, 3);
        TalkBridge late = Due.river(persons(3, "") + "long 3 + minute;bridge 1 room 1;");
        late.cross(4);
        Due.due("minute as now: 6, three times", late.lantern(0), 18);
        TalkBridge said = Due.river(persons(2, "") + "say a to b 9;");
        Due.due("not SAID now", said.lantern(0), 12);
        said.cross(3);
        said.cross(3);
        Due.due("SAID now", said.lantern(0), 3);
    }

    private static void partner() {
        Sentences.sentence("PARTNER of a PERSON: the one on his BANK with whom, as two, his TIME is least; of like ones the first.");
        TalkBridge x = Due.river("person a pace 3;person b pace 3;person c pace 1;person d pace 3;person e pace 9 over;say a to b 9;say b to d 1;");
        Due.due("a with d", x.partner(0, 0), 3);
        Due.due("their TIME", x.partner(0, 1), 1);
        Due.due("b with d", x.partner(1, 0), 3);
        Due.due("their TIME", x.partner(1, 1), 2);
        Due.due("c with a, or b, or d", x.partner(2, 0), 0);
        Due.due("d with a", x.partner(3, 0), 0);
        TalkBridge last = Due.river("person a pace 1;person b pace 1;");
        Due.due("a has the last one", last.partner(0, 0), 1);
        Due.due("b has the first one", last.partner(1, 0), 0);
        Sentences.sentence("PARTNER what 0: he, 1: their TIME; NONE if there is none (room for one alone, too), or one can't be.");
        for (int what = 0; what <= 1; what++) {
            Due.due("alone on his BANK", x.partner(4, what), -1);
            Due.due("nobody", x.partner(5, what), -1);
            Due.due("room for one", Due.river(persons(2, "") + "bridge 3 room 1;").partner(0, what), -1);
            Due.due("room for two", Due.river(persons(2, "") + "bridge 3 room 2;").partner(0, what) >= 0, true);
            for (int number : BoundaryActs.NO_NUMBER) {
                Due.due("partner(" + number + ", " + what + ")", x.partner(number, what), -1);
            }
        }
        for (int what : NO_CHOICE) {
            Due.due("partner(0, " + what + ")", x.partner(0, what), -1);
        }
    }

    private static void hush() {
        Sentences.sentence("HUSH of a GROUP: the MATTER of what it TALKS without which its TIME is least; of like ones the first.");
        TalkBridge x = Due.river(persons(3, "") + "say a to c 50;say a to b 5;say b to a 9;say a to b 4 lie;say b to a 9;bridge 2;");
        Due.due("hush(3, 0)", x.hush(3, 0), 2);
        Due.due("2 + 14 - 4", x.hush(3, 1), 12);
        Due.due("with c", x.hush(7, 0), 0);
        TalkBridge lie = Due.river(persons(2, "") + "say a to b 7 lie;bridge 9;");
        Due.due("a lie alone, though it is longer then", lie.hush(3, 0), 0);
        Due.due("its TIME then", lie.hush(3, 1), 9);
        TalkBridge pace = Due.river("person a pace 9;person b pace 9;say a to b 5;say a to b 8;bridge 1;");
        // 14 by 9 is 2, without 5 it is 1, without 8 as well
        Due.due("of like TIMES the first", pace.hush(3, 0), 0);
        Due.due("TIME", pace.hush(3, 1), 1);
        Sentences.sentence("HUSH what 0: the MATTER, 1: the TIME then; NONE if it TALKS nothing, can't be one, or for another what.");
        TalkBridge two = Due.river(persons(2, "") + "say a to b 7;");
        for (int what = 0; what <= 1; what++) {
            Due.due("one alone", two.hush(1, what), -1);
            for (int set : BoundaryActs.NO_SET_OF_TWO) {
                Due.due("hush(" + set + ", " + what + ")", two.hush(set, what), -1);
            }
        }
        for (int what : NO_CHOICE) {
            Due.due("hush(3, " + what + ")", two.hush(3, what), -1);
        }
        two.cross(3);
        Due.due("all is SAID", two.hush(3, 0), -1);
        Due.due("all is SAID", two.hush(3, 1), -1);
    }

    private static void keep(TalkBridge x, int set, int minutes, int many, int which) {
        Due.due("keep(" + set + ", " + minutes + ", 0)", x.keep(set, minutes, 0), many);
        Due.due("keep(" + set + ", " + minutes + ", 1)", x.keep(set, minutes, 1), which);
    }

    private static void keep() {
        Sentences.sentence("The fewest MATTERS of what a GROUP TALKS to be kept back, so that its TIME is so many minutes (0 .. 9,999) at most; "
            + "of like ones the least set as bits: what 0: how many, 1: which; NONE if all are not enough, it can't be a GROUP, or one can't be.");
        TalkBridge x = Due.river(persons(2, "") + "say a to b 5;say b to a 9;say a to b 0;say b to a 9;bridge 2;");
        keep(x, 3, 25, 0, 0);
        keep(x, 3, 24, 1, 1);
        keep(x, 3, 20, 1, 1);
        keep(x, 3, 19, 1, 2);
        keep(x, 3, 16, 1, 2);
        keep(x, 3, 15, 2, 3);
        keep(x, 3, 11, 2, 3);
        keep(x, 3, 10, 2, 10);
        keep(x, 3, 7, 2, 10);
        keep(x, 3, 6, 3, 11);
        keep(x, 3, 2, 3, 11);
        keep(x, 3, 1, -1, -1);
        keep(x, 3, 0, -1, -1);
        keep(x, 3, 9999, 0, 0);
        keep(x, 1, 2, 0, 0);
        keep(x, 1, 1, -1, -1);
        for (int minutes : new int[] {-1, 10000, Integer.MIN_VALUE, Integer.MAX_VALUE}) {
            keep(x, 3, minutes, -1, -1);
        }
        for (int set : BoundaryActs.NO_SET_OF_TWO) {
            keep(x, set, 9999, -1, -1);
        }
        for (int what : NO_CHOICE) {
            Due.due("keep(3, 25, " + what + ")", x.keep(3, 25, what), -1);
        }
        TalkBridge twelve = Due.river(persons(2, "") + "say a to b 1;".repeat(12));
        keep(twelve, 3, 4, 11, 2047);
        keep(twelve, 3, 3, 12, 4095);
        keep(twelve, 3, 2, -1, -1);
        TalkBridge last = Due.river(persons(2, "") + "say a to b 1;".repeat(11) + "say b to a 50;");
        keep(last, 3, 14, 1, 2048);
        TalkBridge longest = Due.river(persons(1, "") + "long 9999;");
        keep(longest, 1, 9999, 0, 0);
        keep(longest, 1, 9998, -1, -1);
    }

    private static void lacks() {
        Sentences.sentence("How many coins those of a GROUP lack for its TOLL, all together; NONE if it can't be a GROUP.");
        TalkBridge x = Due.river("person a pace 1 coins 4;person b pace 1 coins 6;toll many * 3 - 1;");
        Due.due("one who has more", x.lacks(1), 0);
        Due.due("5 are asked for of 4 and 6", x.lacks(3), 1);
        for (int set : BoundaryActs.NO_SET_OF_TWO) {
            Due.due("lacks(" + set + ")", x.lacks(set), -1);
        }
        TalkBridge most = Due.river(persons(7, "") + "toll 999;");
        Due.due("seven lack all of the most", most.lacks(127), 6993);
        TalkBridge exact = Due.river(persons(2, " coins 7") + "toll 7;");
        Due.due("as many as it is", exact.lacks(3), 0);
        TalkBridge one = Due.river(persons(2, " coins 7") + "toll 8;");
        Due.due("one each", one.lacks(3), 2);
    }

    private static void friends() {
        Sentences.sentence("PERSONS with whom one has a MATTER that is not SAID, as bits; NONE if there is none such.");
        TalkBridge x = Due.river(persons(3, "") + "person d pace 1 over;say a to b 1;say b to a 1;say d to a 0;");
        Due.due("with b, and over the river with d", x.friends(0), 10);
        Due.due("with a", x.friends(1), 1);
        Due.due("with nobody", x.friends(2), 0);
        Due.due("with a", x.friends(3), 1);
        Due.due("none such", x.friends(4), -1);
        for (int number : BoundaryActs.NO_NUMBER) {
            Due.due("friends(" + number + ")", x.friends(number), -1);
        }
        x.cross(3);
        Due.due("SAID", x.friends(1), 0);
        x.again(1);
        Due.due("it came up again", x.friends(1), 1);
        Due.due("of nobody", new TalkBridge().friends(0), -1);
    }

    private static void split() {
        Sentences.sentence("what 0: the part that has its first PERSON (of like ones the least set as bits), 1: both TIMES together; "
            + "NONE for one alone, if it can't be a GROUP, or for another what.");
        TalkBridge x = Due.river(persons(4, "") + "say a to b 5;say c to d 2;say a to c 9;");
        // a d, b c take 3 each; so do no others
        Due.due("split(15, 0)", x.split(15, 0), 9);
        Due.due("split(15, 1)", x.split(15, 1), 6);
        // b: c d 5, b c: d 3, b d: c 3
        Due.due("the first PERSON is b", x.split(14, 0), 6);
        Due.due("both TIMES", x.split(14, 1), 6);
        Due.due("two", x.split(3, 0), 1);
        Due.due("both TIMES", x.split(3, 1), 6);
        TalkBridge like = Due.river(persons(4, ""));
        Due.due("all are alike", like.split(15, 0), 1);
        Due.due("all are alike, without a", like.split(14, 0), 2);
        Due.due("all are alike, c and d", like.split(12, 0), 4);
        TalkBridge two = Due.river(persons(2, ""));
        for (int what = 0; what <= 1; what++) {
            Due.due("one alone", two.split(1, what), -1);
            Due.due("one alone", two.split(2, what), -1);
            for (int set : BoundaryActs.NO_SET_OF_TWO) {
                Due.due("split(" + set + ", " + what + ")", two.split(set, what), -1);
            }
        }
        for (int what : NO_CHOICE) {
            Due.due("split(3, " + what + ")", two.split(3, what), -1);
        }
        TalkBridge seven = Due.river(persons(7, "") + "long (many < 7) * 9 + 1;");
        Due.due("seven in two", seven.split(127, 1), 20);
        Due.due("the least", seven.split(127, 0), 1);
    }

    private static void bear() {
        Sentences.sentence("BEAR of a GROUP: how many words more of LIES it could TALK, so that the bridge did not break.");
        TalkBridge x = Due.river(persons(2, "") + "say a to b 4 lie;say b to a 90;bridge 3 bears 6;");
        Due.due("of two", x.bear(3), 2);
        Due.due("of one", x.bear(1), 6);
        x.cross(3);
        Due.due("all is SAID", x.bear(3), 6);
        Sentences.sentence("BEAR (0 at least); NONE if it breaks as it is, or can't be a GROUP.");
        Due.due("as many as it bears", Due.river(persons(2, "") + "say a to b 20 lie;").bear(3), 0);
        Due.due("one more", Due.river(persons(2, "") + "say a to b 21 lie;").bear(3), -1);
        Due.due("none, and it bears none", Due.river(persons(2, "") + "bridge 1 bears 0;").bear(3), 0);
        Due.due("the most", Due.river(persons(2, "") + "bridge 1 bears 999;").bear(3), 999);
        for (int set : BoundaryActs.NO_SET_OF_TWO) {
            Due.due("bear(" + set + ")", x.bear(set), -1);
        }
    }

    private static void ears() {
        Sentences.sentence("EARS: who of those on its BANK could be taken along with a GROUP (each by himself), so that its TIME is not longer.");
        TalkBridge x = Due.river(persons(4, "") + "person e pace 1 over;say b to c 50;say a to d 1;");
        Due.due("b, c each by himself; d talks; e is over", x.ears(1), 6);
        Due.due("b with a, d", x.ears(2), 9);
        TalkBridge pace = Due.river("person a pace 3;person b pace 2;person c pace 3;person d pace 9;say a to d 1;bridge 2;");
        Due.due("b: 2 by 2 is 1 as well; c; d: 3 by 3 is 1", pace.ears(1), 14);
        TalkBridge longer = Due.river("person a pace 3;person b pace 2;say a to b 1;bridge 2;");
        Due.due("3 by 2 is 2", longer.ears(1), 0);
        Sentences.sentence("EARS, as bits; NONE if it can't be a GROUP.");
        TalkBridge two = Due.river(persons(2, ""));
        Due.due("the other one", two.ears(1), 2);
        Due.due("nobody else", two.ears(3), 0);
        for (int set : BoundaryActs.NO_SET_OF_TWO) {
            Due.due("ears(" + set + ")", two.ears(set), -1);
        }
        TalkBridge room = Due.river(persons(3, "") + "bridge 3 room 2;");
        Due.due("room for one more", room.ears(1), 6);
        Due.due("no more room", room.ears(3), 0);
        Due.due("too many", room.ears(7), -1);
    }

    private static void worth() {
        Sentences.sentence("WORTH of silence of a GROUP: its TIME less that by which nothing were TALKED (it may be below 0).");
        TalkBridge x = Due.river("person a pace 2;person b pace 2;say a to b 3;bridge 3;");
        Due.due("6 by 2 less 3 by 2", x.worth(3), 1);
        Due.due("one alone", x.worth(1), 0);
        Due.due("lies", Due.river(persons(2, "") + "say a to b 2 lie;").worth(3), -2);
        Due.due("most lies", Due.river(persons(2, "") + "say a to b 99 lie;bridge 99;").worth(3), -98);
        Due.due("the most", Due.river(persons(2, "") + "say a to b 1;long words * 9999;").worth(3), 9998);
        Due.due("the least", Due.river(persons(2, "") + "say a to b 1;long 9999 - words * 9999;").worth(3), -9998);
        Sentences.sentence("WORTH; -100000 if it can't be a GROUP.");
        for (int set : BoundaryActs.NO_SET_OF_TWO) {
            Due.due("worth(" + set + ")", x.worth(set), -100000);
        }
        Due.due("on two BANKS", Due.river("person a pace 1;person b pace 1 over;").worth(3), -100000);
    }

    private static void payers() {
        Sentences.sentence("GROUPS on a BANK (0 near, 1 far) each of whom could pay its TOLL: how many; NONE for another BANK.");
        TalkBridge x = Due.river("person a pace 1 coins 1;person b pace 1 coins 2;person c pace 1 coins 3;person d pace 1 over;toll many;");
        // a, b, c, b c; a can't pay 2, b can't pay 3
        Due.due("near", x.payers(0), 4);
        Due.due("far", x.payers(1), 0);
        Due.due("nobody is there", Due.river(persons(2, "")).payers(1), 0);
        Due.due("no toll", Due.river(persons(7, "")).payers(0), 127);
        Due.due("room", Due.river(persons(7, "") + "bridge 1 room 1;").payers(0), 7);
        for (int bank : NO_CHOICE) {
            Due.due("payers(" + bank + ")", x.payers(bank), -1);
        }
    }

    private static void longest() {
        Sentences.sentence("The GROUP on a BANK of the greatest LENGTH; of like ones the least set as bits; NONE without PERSONS there, or for another BANK.");
        TalkBridge x = Due.river(persons(3, "") + "person d pace 1 over;say b to c 5;say a to c 2 lie;");
        Due.due("near", x.longest(0), 6);
        Due.due("far", x.longest(1), 8);
        TalkBridge like = Due.river("person z pace 1 over;" + persons(3, ""));
        Due.due("all are alike", like.longest(0), 2);
        Due.due("both are 9999", Due.river(persons(2, "") + "long 9999 * many;").longest(0), 1);
        Due.due("both are 1", Due.river(persons(2, "") + "long 0 - many;").longest(0), 1);
        Due.due("all seven", Due.river(persons(7, "") + "long many;").longest(0), 127);
        Due.due("as many as there is room", Due.river(persons(7, "") + "long many;bridge 1 room 3;").longest(0), 7);
        Due.due("nobody is far", Due.river(persons(2, "")).longest(1), -1);
        Due.due("nobody is near", Due.river(persons(2, " over")).longest(0), -1);
        for (int bank : NO_CHOICE) {
            Due.due("longest(" + bank + ")", x.longest(bank), -1);
        }
    }

    private static void quiet() {
        Sentences.sentence("How many GROUPS on a BANK TALK nothing; NONE for another BANK.");
        TalkBridge x = Due.river(persons(3, "") + "person d pace 1 over;say a to b 0;say a to d 1;");
        Due.due("a, b, c, a c, b c", x.quiet(0), 5);
        Due.due("far", x.quiet(1), 1);
        x.cross(3);
        Due.due("d, a, b, and what is SAID: a b, b d", x.quiet(1), 5);
        Due.due("nobody is there", Due.river(persons(2, "")).quiet(1), 0);
        for (int bank : NO_CHOICE) {
            Due.due("quiet(" + bank + ")", x.quiet(bank), -1);
        }
    }

    private static void voice() {
        Sentences.sentence("The GROUP that TALKS a MATTER in the least TIME; of like ones the least set as bits: what 0: it, 1: the TIME; "
            + "NONE if there is none, or one can't be.");
        TalkBridge x = Due.river(persons(3, "") + "person d pace 1 over;person e pace 1 over;say a to b 9;say b to c 5 lie;say a to d 1;say e to d 4;");
        Due.due("with c it is shorter", x.voice(0, 0), 7);
        Due.due("its TIME", x.voice(0, 1), 7);
        Due.due("b and c", x.voice(1, 0), 6);
        Due.due("on the far BANK", x.voice(3, 0), 24);
        Due.due("its TIME", x.voice(3, 1), 7);
        TalkBridge like = Due.river(persons(3, "") + "say b to c 1;");
        Due.due("of like ones the least", like.voice(0, 0), 6);
        TalkBridge others = Due.river(persons(3, "") + "say a to c 1;");
        Due.due("of like ones the least", others.voice(0, 0), 5);
        for (int what = 0; what <= 1; what++) {
            Due.due("over the river", x.voice(2, what), -1);
            Due.due("none such", x.voice(4, what), -1);
            for (int number : BoundaryActs.NO_NUMBER) {
                Due.due("voice(" + number + ", " + what + ")", x.voice(number, what), -1);
            }
            Due.due("room for one", Due.river(persons(2, "") + "say a to b 1;bridge 1 room 1;").voice(0, what), -1);
        }
        for (int what : NO_CHOICE) {
            Due.due("voice(0, " + what + ")", x.voice(0, what), -1);
        }
        x.cross(3);
        Due.due("SAID", x.voice(0, 0), -1);
        Due.due("they came over to d", x.voice(2, 0), 9);
    }

    private static void rich() {
        Sentences.sentence("The PERSON of most coins on a BANK; of like ones the first; NONE without PERSONS there, or for another BANK.");
        TalkBridge x = Due.river("person a pace 1 coins 3;person b pace 1 coins 4;person c pace 1 coins 4;person d pace 1 coins 9 over;");
        Due.due("near", x.rich(0), 1);
        Due.due("far", x.rich(1), 3);
        Due.due("none has coins", Due.river(persons(2, "")).rich(0), 0);
        Due.due("none has coins, far", Due.river("person z pace 1;" + persons(2, " over")).rich(1), 1);
        Due.due("the most", Due.river(persons(1, " coins 998") + "person z pace 1 coins 999;").rich(0), 1);
        Due.due("nobody is far", Due.river(persons(2, "")).rich(1), -1);
        Due.due("nobody is near", Due.river(persons(2, " over")).rich(0), -1);
        for (int bank : NO_CHOICE) {
            Due.due("rich(" + bank + ")", x.rich(bank), -1);
        }
    }

    private static void frail() {
        Sentences.sentence("How many GROUPS on a BANK would break the bridge; NONE for another BANK.");
        TalkBridge x = Due.river(persons(3, "") + "person d pace 1 over;say a to b 20 lie;say b to c 1 lie;say a to d 99 lie;");
        Due.due("all three: 21; a and b: 20", x.frail(0), 1);
        Due.due("far", x.frail(1), 0);
        x.cross(1);
        Due.due("near: none", x.frail(0), 0);
        Due.due("far: a and d", x.frail(1), 1);
        Due.due("room", Due.river(persons(3, "") + "say a to b 20 lie;say b to c 1 lie;bridge 3 room 2;").frail(0), 0);
        for (int bank : NO_CHOICE) {
            Due.due("frail(" + bank + ")", x.frail(bank), -1);
        }
    }

    private static void within() {
        Sentences.sentence("How many GROUPS on a BANK have a TIME of so many minutes (0 .. 9,999) at most; NONE if one can't be.");
        TalkBridge x = Due.river("person a pace 1;person b pace 2;person c pace 1 over;say a to b 3;");
        // a 3, b 2, a b 6, c 3
        int[] many = {0, 0, 1, 2, 2, 2, 3, 3};
        for (int minutes = 0; minutes < many.length; minutes++) {
            Due.due("within(0, " + minutes + ")", x.within(0, minutes), many[minutes]);
        }
        Due.due("within(0, 9999)", x.within(0, 9999), 3);
        Due.due("within(1, 2)", x.within(1, 2), 0);
        Due.due("within(1, 3)", x.within(1, 3), 1);
        for (int minutes : new int[] {-1, 10000, Integer.MIN_VALUE, Integer.MAX_VALUE}) {
            Due.due("within(0, " + minutes + ")", x.within(0, minutes), -1);
        }
        for (int bank : NO_CHOICE) {
            Due.due("within(" + bank + ", 5)", x.within(bank, 5), -1);
        }
        TalkBridge longest = Due.river(persons(1, "") + "long 9999;");
        Due.due("9998", longest.within(0, 9998), 0);
        Due.due("9999", longest.within(0, 9999), 1);
    }

    private static void talkerAndMute() {
        Sentences.sentence("The PERSON of most words in MATTERS of him or to him that are not SAID (lies, too); of like ones the first; NONE without PERSONS.");
        TalkBridge x = Due.river(persons(3, "") + "person d pace 1 over;say a to b 5;say b to c 5 lie;say c to d 1;");
        Due.due("b: 10", x.talker(), 1);
        x.cross(3);
        Due.due("c: 6", x.talker(), 2);
        x.cross(3);
        x.cross(6);
        Due.due("c and d: 1", x.talker(), 2);
        x.cross(12);
        Due.due("none has any", x.talker(), 0);
        Due.due("none has any", Due.river(persons(2, "")).talker(), 0);
        Due.due("what has no words", Due.river(persons(2, "") + "say a to b 0;").talker(), 0);
        Due.due("nobody", new TalkBridge().talker(), -1);
        Sentences.sentence("PERSONS without such a MATTER, as bits.");
        Due.due("all is SAID", x.mute(), 15);
        x.again(0);
        Due.due("between a and b it came up again", x.mute(), 12);
        Due.due("what has no words is such a one", Due.river(persons(3, "") + "say a to b 0;").mute(), 4);
        Due.due("over the river, too", Due.river("person a pace 1;person b pace 1 over;say a to b 1;").mute(), 0);
        Due.due("nobody", new TalkBridge().mute(), 0);
        Due.due("all seven", Due.river(persons(7, "")).mute(), 127);
    }

    private static void apart() {
        Sentences.sentence("MATTERS not SAID yet of PERSONS who are on two BANKS, as bits.");
        TalkBridge x = Due.river(persons(2, "") + "person c pace 1 over;person d pace 1 over;say a to b 1;say a to c 0;say d to b 1 lie;say c to d 1;");
        Due.due("apart", x.apart(), 6);
        x.cross(1);
        Due.due("a is over", x.apart(), 5);
        x.cross(5);
        Due.due("a and c came back, and it was SAID", x.apart(), 12);
        x.cross(1);
        Due.due("what is SAID does not count", x.apart(), 13);
        Due.due("none", new TalkBridge().apart(), 0);
        Due.due("none", Due.river(persons(2, " over") + "say a to b 1;").apart(), 0);
    }

    private static void knowing() {
        Sentences.sentence("PERSONS who HEARD each MATTER that is SAID, as bits (all, if none is SAID).");
        TalkBridge x = Due.river(persons(4, "") + "say a to b 1;say b to c 1;");
        Due.due("none is SAID", x.knowing(), 15);
        x.cross(3);
        Due.due("a and b", x.knowing(), 3);
        x.cross(3);
        x.cross(14);
        Due.due("b alone HEARD both", x.knowing(), 2);
        x.again(0);
        Due.due("what is not SAID any more does not count", x.knowing(), 14);
        x.again(1);
        Due.due("none is SAID any more", x.knowing(), 15);
        Due.due("nobody", new TalkBridge().knowing(), 0);
    }

    private static void single() {
        Sentences.sentence("How many minutes it would take, if PERSONS on the near BANK crossed one by one, in order.");
        Due.due("nobody", new TalkBridge().single(), 0);
        Due.due("nobody is near", Due.river(persons(2, " over")).single(), 0);
        Due.due("5, 3 and 9", Due.river("person a pace 2;person b pace 1 over;person c pace 4;person d pace 1;say a to c 50;bridge 9;").single(), 17);
        Due.due("seven at the most", Due.river(persons(7, "") + "long 9999;").single(), 69993);
        Due.due("the minute goes on: 1, 2, 4", Due.river(persons(3, "") + "long 1 + minute;").single(), 7);
        TalkBridge late = Due.river(persons(3, "") + "long 1 + minute;");
        late.cross(1);
        Due.due("from what is now: 2, 4", late.single(), 6);
    }

    private static void odds(int turns, int n, int upper, int lower) {
        TalkBridge x = Due.river("turns " + turns + ";");
        Due.due("odds(" + n + ", 0) of turns " + turns, x.odds(n, 0), upper);
        Due.due("odds(" + n + ", 1) of turns " + turns, x.odds(n, 1), lower);
    }

    private static void odds() {
        Sentences.sentence("ODDS of n CROSSINGS: that none is turned back.");
        odds(75, 2, 1, 16);
        odds(20, 3, 64, 125);
        Sentences.sentence("ODDS (n 0 .. 4) the upper part (0), the lower part (1), in lowest terms (0 of 1); NONE if one can't be.");
        odds(0, 4, 1, 1);
        odds(100, 0, 1, 1);
        odds(100, 1, 0, 1);
        odds(100, 4, 0, 1);
        odds(50, 0, 1, 1);
        odds(50, 1, 1, 2);
        odds(50, 4, 1, 16);
        odds(99, 1, 1, 100);
        odds(99, 4, 1, 100000000);
        odds(1, 4, 96059601, 100000000);
        odds(2, 4, 5764801, 6250000);
        odds(60, 1, 2, 5);
        TalkBridge x = Due.river("turns 50;");
        for (int n : new int[] {-1, 5, 6, Integer.MIN_VALUE, Integer.MAX_VALUE}) {
            Due.due("odds(" + n + ", 0)", x.odds(n, 0), -1);
            Due.due("odds(" + n + ", 1)", x.odds(n, 1), -1);
        }
        for (int part : NO_CHOICE) {
            Due.due("odds(1, " + part + ")", x.odds(1, part), -1);
        }
    }

    private static void about() {
        Sentences.sentence("What 0: PERSONS, 1: MATTERS, 2: who is on the far BANK, 3: MATTERS that are SAID, both as bits, 4: 1 if the bridge is broken, else 0, "
            + "5: the minute, 6: the SEED, 7: ACTS that can be undone, 8: redone, 9: what is TIMED, 10: the TIME of telling, 11: bytes on the TAPE, "
            + "12: units, 13: numbers that lie there, 14: steps of the bridge, 15: what it bears, 16: room. NONE for another what.");
        TalkBridge x = Due.river(persons(5, " coins 9") + "say a to b 1;say a to c 22 lie;say a to d 1;long steps + words * 2;bridge 30 bears 21 mends 7 room 6;draw 8;");
        x.cross(3);
        x.soonest();
        x.cross(1);
        x.cross(5);
        x.hand(0, 2, 1);
        x.hand(0, 2, 1);
        x.undo();
        x.later(40);
        x.took(1, true);
        x.was(0, true);
        x.were(7, false);
        x.untell(1);
        x.feed(0, 0, 0, 0, 0);
        x.end(19);
        // 8 becomes 1167: 167, then 22950: 950
        int[] due = {5, 3, 2, 3, 1, 62, 950, 4, 1, 3, 40, 19, 3, 5, 30, 21, 6};
        for (int what = 0; what < due.length; what++) {
            Due.due("about(" + what + ")", x.about(what), due[what]);
        }
        for (int what : new int[] {-1, 17, 18, 32, Integer.MIN_VALUE, Integer.MAX_VALUE}) {
            Due.due("about(" + what + ")", x.about(what), -1);
        }
        x.mend();
        Due.due("whole", x.about(4), 0);
    }
}
