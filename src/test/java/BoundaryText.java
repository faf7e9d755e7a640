import java.util.function.ToIntFunction;

/** The boundaries that the document names for a text: its Terms up to the FAULTS, and promises 1 to 5. */
final class BoundaryText {
    private static final String TWO = "person a pace 1;person b pace 2;";
    private static final String[] OWN_WORDS = {"person", "pace", "coins", "over", "say", "to", "lie", "bridge", "bears", "mends",
        "room", "long", "toll", "turns", "draw", "or", "and", "not", "steps", "words", "lies", "many", "length", "minute"};
    private static final String[] ONCE = {"bridge 1;", "long 1;", "toll 1;", "turns 1;", "draw 1;"};

    private BoundaryText() {
    }

    static void all() {
        calls();
        bytes();
        tokens();
        blanks();
        ownWords();
        persons();
        matters();
        once();
        unitLimits();
        nesting();
        places();
        faultKinds();
        everyPlace();
        tape();
        rivers();
        latestFault();
    }

    private static void calls() {
        Sentences.sentence("An object is used for at most 512 calls after it has been made; what later calls answer is free.");
        TalkBridge x = new TalkBridge();
        for (int i = 1; i <= 512; i++) {
            Due.due("later(1) as call " + i, x.later(1), i);
        }
        // the text is fed by three calls, cut and read by two
        TalkBridge acts = Due.river("person a pace 1 coins 1;person b pace 1;");
        for (int i = 6; i <= 512; i++) {
            Due.due("hand as call " + i, acts.hand(i % 2, 1 - i % 2, 1), 1);
        }
        Sentences.sentence("The constants: `NONE = -1`: There is none.");
        Due.due("NONE", TalkBridge.NONE, -1);
    }

    private static void bytes() {
        Sentences.sentence("A RIVER is a text of at most 1,600 bytes (empty at first): river = {line}.");
        TalkBridge x = new TalkBridge();
        Due.due("about(0) at first", x.about(0), 0);
        Due.due("about(1) at first", x.about(1), 0);
        Due.due("about(11) at first", x.about(11), 0);
        Due.due("river() of no line at all", x.river(), 0);
        Due.due("fault(0)", x.fault(0), 0);
        TalkBridge full = Due.river("draw 7" + " ".repeat(1593) + ";");
        Due.due("the 1,600th byte is read", full.about(6), 7);
        Due.faulty("draw 7" + " ".repeat(1594), 2, 1600);
        Due.faulty("draw 7;" + " ".repeat(1592) + "A", 1, 1599);
        Due.faulty("long " + "(".repeat(1595), 2, 12);
        Due.faulty("long " + "not ".repeat(398), 2, 33);
        Due.faulty("z".repeat(1600), 1, 0);
        Due.faulty("draw " + "1".repeat(1595), 1, 5);
        Due.sound("\n".repeat(1600));
    }

    private static void tokens() {
        Sentences.sentence("TOKENS: words (a .. z, 8 at most), N (1 to 4 digits), signs ; ( ) < > = + - * / %;");
        for (int sign = 0; sign < 256; sign++) {
            String text = "draw 1;" + (char) sign;
            boolean letterOrDigit = sign >= 'a' && sign <= 'z' || sign >= '0' && sign <= '9';
            if (sign == 32 || sign == 10) {
                Due.sound(text);
            } else {
                Due.faulty(text, letterOrDigit || ";()<>=+-*/%".indexOf(sign) >= 0 ? 2 : 1, 7);
            }
        }
        Due.sound("person azazazaz pace 1;");
        Due.faulty("person azazazaza pace 1;", 1, 7);
        Due.faulty(TWO + "say a to azazazaza 1;", 1, 41);
        Due.faulty("personabc a pace 1;", 1, 0);
        Due.sound("person abcdefgh pace 1;person abcdefgi pace 1;say abcdefgi to abcdefgh 1;");
        Due.faulty("person abcdefgh pace 1;person abcdefgh pace 1;", 3, 30);
        Due.sound("person a pace 1;person aa pace 1;person aaaaaaaa pace 1;person aaaaaaa pace 1;");
        Due.due("one digit", Due.river("draw 7;").about(6), 7);
        Due.due("four digits", Due.river("draw 0007;").about(6), 7);
        Due.due("four noughts", Due.river("draw 0000;").about(6), 0);
        Due.faulty("draw 00007;", 1, 5);
        Due.faulty("draw 00000000;", 1, 5);
        Due.due("9999", Due.river("person a pace 1;long 9999;").group(1, 2), 9999);
        Due.faulty("long 10000;", 1, 5);
    }

    private static void blanks() {
        Sentences.sentence("blanks (32, 10) part them or not;");
        Due.sound("draw\n1\n;\n turns \n\n 1 ; ");
        Due.sound("draw1;turns1;bridge1 bears1;");
        Due.sound("toll not(1)or(2)and steps;");
        Due.faulty("draw\t1;", 1, 4);
        Due.faulty("draw 1\r;", 1, 6);
        Due.faulty("person a b pace 1;", 2, 9);
        Due.faulty("draw 1 2;", 2, 7);
        Sentences.sentence("each is as long as can be;");
        Due.faulty("persona pace 1;", 2, 0);
        Due.faulty("long stepsx;", 2, 5);
        Due.sound("person nota pace 1;person paces pace 1;person liee pace 1;");
        Due.due("12 is one N", Due.river("draw 12;").about(6), 12);
        Due.due("not and 0 are two", Due.river("person a pace 1;toll not0;").group(1, 4), 1);
        Sentences.sentence("no letter directly behind an N.");
        Due.faulty("draw 1x;", 1, 5);
        Due.faulty("draw 1234a;", 1, 5);
        Due.faulty("person a pace 1over;", 1, 14);
        Due.faulty("long 1or 2;", 1, 5);
        Due.faulty("long (1)+12z;", 1, 9);
        Due.sound("person a pace 1 over;");
        Due.sound("long 1\nor 2;");
        Due.sound("long (1)or(2);");
        TalkBridge cut = new TalkBridge();
        Due.feed(cut, "draw 1x");
        cut.end(6);
        Due.due("river() with the letter cut off", cut.river(), -1);
        Due.due("the N stands, the end can't", cut.fault(0), 2);
        Due.due("place", cut.fault(1), 6);
        Due.feed(cut, "draw 1;");
        Due.due("end(6)", cut.end(6), 6);
        cut.feed(0x3b787878, 0, 0, 0, 0);
        Due.due("end(7)", cut.end(7), 7);
        Due.due("other bytes come behind the cut", cut.river(), 0);
    }

    private static void ownWords() {
        Sentences.sentence("Words that stand for themselves here are no NAMES.");
        for (String word : OWN_WORDS) {
            Due.faulty("person " + word + " pace 1;", 2, 7);
            Due.faulty(TWO + "say " + word + " to a 1;", 2, 36);
            Due.faulty(TWO + "say a to " + word + " 1;", 2, 41);
            Due.sound("person " + word + "x pace 1;");
            Due.sound("person x" + word + " pace 1;");
            String shorter = word.substring(0, word.length() - 1);
            if (!shorter.equals("lie")) {
                Due.sound("person " + shorter + " pace 1;");
            }
        }
    }

    /** Both ends of a range are told, and what is beyond them is FAULT 4 at the number. */
    private static void range(String before, String behind, int least, int most, ToIntFunction<TalkBridge> told) {
        Due.due(before + least, told.applyAsInt(Due.river(before + least + behind)), least);
        Due.due(before + most, told.applyAsInt(Due.river(before + most + behind)), most);
        Due.faulty(before + (most + 1) + behind, 4, before.length());
        Due.faulty(before + 9999 + behind, 4, before.length());
        if (least > 0) {
            Due.faulty(before + (least - 1) + behind, 4, before.length());
        }
    }

    private static String persons(int many) {
        StringBuilder text = new StringBuilder();
        for (int i = 0; i < many; i++) {
            text.append("person ").append((char) ('a' + i)).append(" pace ").append(i % 9 + 1).append(";");
        }
        return text.toString();
    }

    private static void persons() {
        Sentences.sentence("At most 7 PERSONS (pace 1 .. 9; coins 0 .. 999, 0 if not told; over: on the far BANK, else on the near one),");
        TalkBridge seven = Due.river(persons(7));
        Due.due("seven", seven.about(0), 7);
        Due.due("the seventh's pace", seven.person(6, 0), 7);
        Due.due("the seventh as a GROUP", seven.group(64, 3), 1);
        Due.faulty(persons(8), 2, persons(7).length());
        Due.faulty(persons(7) + "person", 2, persons(7).length());
        range("person a pace ", ";", 1, 9, x -> x.person(0, 0));
        range("person a pace 1 coins ", ";", 0, 999, x -> x.person(0, 1));
        Due.due("coins are not told", Due.river("person a pace 1;").person(0, 1), 0);
        Due.due("coins are not told, over is", Due.river("person a pace 1 over;").person(0, 1), 0);
        Due.due("over", Due.river("person a pace 1 over;").person(0, 2), 1);
        Due.due("over behind coins", Due.river("person a pace 1 coins 5 over;").person(0, 2), 1);
        Due.due("not over", Due.river("person a pace 1 coins 5;").person(0, 2), 0);
        Due.faulty("person a pace 1 over coins 5;", 2, 21);
    }

    private static void matters() {
        Sentences.sentence("12 MATTERS (of one to another one, both told ahead; 0 .. 99 words; lies or not),");
        StringBuilder twelve = new StringBuilder(TWO);
        for (int i = 0; i < 12; i++) {
            twelve.append("say a to b ").append(i).append(i % 2 == 1 ? " lie;" : ";");
        }
        TalkBridge x = Due.river(twelve.toString());
        Due.due("twelve", x.about(1), 12);
        Due.due("the twelfth's words", x.matter(11, 2), 11);
        Due.due("it lies", x.matter(11, 3), 1);
        Due.due("the eleventh does not", x.matter(10, 3), 0);
        Due.due("all are talked", x.group(3, 5), 4095);
        Due.faulty(twelve + "say a to b 1;", 2, twelve.length());
        Due.faulty(twelve + "say", 2, twelve.length());
        range(TWO + "say a to b ", ";", 0, 99, y -> y.matter(0, 2));
        range(TWO + "say a to b ", " lie;", 0, 99, y -> y.matter(0, 2));
        Due.faulty(TWO + "say a to a 1;", 3, 41);
        Due.faulty("person a pace 1;say a to b 1;person b pace 1;", 5, 25);
        Due.faulty("person a pace 1;say b to a 1;person b pace 1;", 5, 20);
        Sentences.sentence("numbered as told, PERSONS by themselves;");
        TalkBridge mixed = Due.river("person b pace 1;person a pace 2;say a to b 1;person c pace 3;say c to b 2;");
        Due.due("of the second PERSON", mixed.matter(0, 0), 1);
        Due.due("to the first", mixed.matter(0, 1), 0);
        Due.due("of the third", mixed.matter(1, 0), 2);
        Due.due("words of the second MATTER", mixed.matter(1, 2), 2);
        Due.due("pace of the third PERSON", mixed.person(2, 0), 3);
    }

    private static int mended(TalkBridge x) {
        x.cross(3);
        return x.mend();
    }

    private static void once() {
        Sentences.sentence("bridge (steps 1 .. 99; 3), bears (0 .. 999; 20), mends (1 .. 60 minutes; 10), room (1 .. 7 PERSONS; 7), "
            + "long, toll, turns (0 .. 100 of 100; 0), draw (0 .. 999; 0) once each;");
        String breaking = TWO + "say a to b 99 lie;";
        range("bridge ", ";", 1, 99, x -> x.about(14));
        range("bridge 5 bears ", ";", 0, 999, x -> x.about(15));
        range(breaking + "bridge 5 mends ", ";", 1, 60, BoundaryText::mended);
        range("bridge 5 room ", ";", 1, 7, x -> x.about(16));
        range("bridge 5 bears 1 mends 2 room ", ";", 1, 7, x -> x.about(16));
        range("turns ", ";", 0, 100, x -> 100 - 100 * x.odds(1, 0) / x.odds(1, 1));
        range("draw ", ";", 0, 999, x -> x.about(6));
        TalkBridge untold = Due.river(breaking);
        Due.due("steps are not told", untold.about(14), 3);
        Due.due("bears is not told", untold.about(15), 20);
        Due.due("room is not told", untold.about(16), 7);
        Due.due("draw is not told", untold.about(6), 0);
        Due.due("turns is not told", untold.odds(1, 0), 1);
        Due.due("mends is not told", mended(untold), 10);
        TalkBridge bare = Due.river(breaking + "bridge 5;");
        Due.due("bears is not told with the bridge", bare.about(15), 20);
        Due.due("room is not told with the bridge", bare.about(16), 7);
        Due.due("mends is not told with the bridge", mended(bare), 10);
        for (String line : ONCE) {
            Due.faulty(line + TWO + line, 2, line.length() + TWO.length());
            Due.faulty(line + line.substring(0, line.indexOf(' ')), 2, line.length());
        }
        for (String line : ONCE) {
            for (String between : ONCE) {
                Due.faulty(line + between + line, 2, line.equals(between) ? line.length() : line.length() + between.length());
            }
        }
        Due.sound(String.join("", ONCE));
    }

    private static void unitLimits() {
        Sentences.sentence("60 units in all, 30 in one e");
        String thirty = "1" + "+1".repeat(29);
        TalkBridge x = Due.river("person a pace 1;long " + thirty + ";toll " + thirty + ";");
        Due.due("sixty", x.about(12), 60);
        Due.due("thirty of long", x.group(1, 2), 30);
        Due.due("thirty of toll", x.group(1, 4), 30);
        Due.due("no units", Due.river("draw 1;").about(12), 0);
        Due.due("one", Due.river("toll many;").about(12), 1);
        Due.faulty("long " + thirty + "+1;", 2, 65);
        Due.faulty("toll " + thirty + "+1;", 2, 65);
        Due.faulty("long " + thirty + "+(1);", 2, 65);
        Due.faulty("long " + thirty + "+;", 2, 65);
        Due.faulty("long " + thirty + ";toll " + thirty + "+1;", 2, 130);
        Due.faulty("long " + thirty + " or 1;", 2, 68);
        // a unit ( e ) is one, too, and is there at its first sign
        Due.faulty("long " + "1+".repeat(29) + "(1);", 2, 5 + 58 + 1);
        Due.sound("long " + "1+".repeat(28) + "(1);");
        // each of thirty with all the nots that it can have
        String nots = "not ".repeat(7);
        String many = (nots + "1 or ").repeat(29) + nots;
        Due.due("all are 0", Due.river("person a pace 1;toll " + many + "1;").group(1, 4), 0);
        Due.due("the last is not", Due.river("person a pace 1;toll " + many + "0;").group(1, 4), 1);
        // as many as can be wait for what is within: each e makes 0 of 1, and 1 of 0
        String waiting = "0 or 1 and 2 > 1 + 1 * ";
        String deep = (waiting + "(").repeat(4) + waiting;
        Due.due("about(12) of it", Due.river("toll " + deep + "0))));").about(12), 30);
        Due.due("0 within five", Due.river("person a pace 1;toll " + deep + "0))));").group(1, 4), 1);
        Due.due("1 within five", Due.river("person a pace 1;toll " + deep + "1))));").group(1, 4), 0);
    }

    private static void nesting() {
        Sentences.sentence("(a unit ( e ), or a one behind not, within 6 others at most).");
        String open = "(".repeat(7);
        String close = ")".repeat(7);
        Due.due("seven", Due.river("person a pace 1;long " + open + "5" + close + ";").group(1, 2), 5);
        Due.faulty("long " + open + "(5)" + close + ";", 2, 12);
        Due.faulty("toll " + open + "(5)" + close + ";", 2, 12);
        Due.faulty("long 1 + " + open + "2 + (5)" + close + ";", 2, 20);
        Due.sound("long " + open + "5" + close + "*" + open + "5" + close + ";");
        Due.due("seven nots", Due.river("person a pace 1;toll " + "not ".repeat(7) + "0;").group(1, 4), 1);
        Due.faulty("long " + "not ".repeat(8) + "0;", 2, 33);
        Due.faulty("long " + "not ".repeat(7) + "(0);", 2, 33);
        Due.faulty("long " + open + "not 0" + close + ";", 2, 12);
        Due.sound("long not (not (not (not 1)));");
        Due.faulty("long not (not (not (not (1))));", 2, 24);
        Due.sound("long " + "not ".repeat(7) + "1 and " + "not ".repeat(7) + "1;");
        Due.sound("long (not " + "(".repeat(5) + "1" + ")".repeat(5) + ");");
        Due.faulty("long (not " + "(".repeat(6) + "1" + ")".repeat(6) + ");", 2, 15);
    }

    private static void places() {
        Sentences.sentence("FAULTS, the first by its place (bytes from 0; the end: the text's length), at one place the least:");
        Due.faulty("A", 1, 0);
        Due.faulty("x", 2, 0);
        Due.faulty("draw", 2, 4);
        Due.faulty("draw \n ", 2, 7);
        Due.faulty("draw 1", 2, 6);
        Due.faulty("draw 1000;A", 4, 5);
        Due.faulty("draw 1 A", 1, 7);
        Due.faulty("draw x A", 2, 5);
        Due.faulty(TWO + "say c to c 100;", 5, 36);
        Due.faulty(TWO + "say a to a 100;", 3, 41);
        Due.faulty(TWO + "person a pace 0;", 3, 39);
        Due.faulty(persons(7) + "person a pace 0;", 2, persons(7).length());
        Due.faulty("draw 1;draw 1000;", 2, 7);
        Due.faulty("draw 1;draw A", 2, 7);
        // no TOKEN is the least, whatever would be asked for there
        Due.faulty("draw 12345;", 1, 5);
        Due.faulty(TWO + "say a to abcdefghi 1;", 1, 41);
        Due.faulty("long " + "1+".repeat(30) + "A;", 1, 65);
        Due.faulty("long " + "(".repeat(7) + "A;", 1, 12);
        Due.faulty(persons(7) + "persons", 2, persons(7).length());
        Due.faulty(persons(7) + "personper", 1, persons(7).length());
        // what can't stand there is no number that can't be, and no NAME that is unknown
        Due.faulty("draw 1 9999;", 2, 7);
        Due.faulty(TWO + "say a to 9999 1;", 2, 41);
        Due.faulty("person a pace b;", 2, 14);
    }

    private static void faultKinds() {
        Sentences.sentence("1 no TOKEN; 2 one that can't stand there (one of a sort too many or a second time: at the line's first word; "
            + "a unit too many, what is within 7 others: at its first TOKEN, or the not);");
        Due.faulty("draw 1;?", 1, 7);
        Due.faulty(";", 2, 0);
        Due.faulty("draw 1;;", 2, 7);
        Due.faulty(persons(7) + "\n person h pace 1;", 2, persons(7).length() + 2);
        Due.faulty(TWO + "say a to b 1;".repeat(12) + " say a to b 1;", 2, TWO.length() + 12 * 13 + 1);
        Due.faulty("bridge 1; bridge 2;", 2, 10);
        Due.faulty("long " + "1+".repeat(30) + " (many);", 2, 66);
        Due.faulty("long " + "(".repeat(7) + " not many", 2, 13);
        Sentences.sentence("3 a NAME told already, one who says to himself (at the second NAME); 4 a number that can't be; "
            + "5 a NAME that no PERSON has.");
        Due.faulty(TWO + "person  b pace 1;", 3, 40);
        Due.faulty(TWO + "say b to  b 1;", 3, 42);
        Due.faulty("turns 101;", 4, 6);
        Due.faulty("turns 0101;", 4, 6);
        Due.faulty(TWO + "say  ab to b 1;", 5, 37);
        Due.faulty("person ab pace 1;person b pace 1;say b to a 1;", 5, 42);
    }

    /** Of a sound text no TOKEN can be left out at the end, and none can be another. */
    private static void everyPlace() {
        Sentences.sentence("line = person NAME pace N [coins N] [over] ; | say NAME to NAME N [lie] ; | bridge N [bears N] [mends N] [room N] ; "
            + "| long e ; | toll e ; | turns N ; | draw N ;.");
        String[] tokens = ("person ab pace 1 coins 2 over ; person b pace 3 ; say ab to b 4 lie ; say b to ab 0 ; "
            + "bridge 5 bears 6 mends 7 room 2 ; long not ( steps + 1 ) * 2 < words or lies and many % 3 = length / minute - 0 ; "
            + "toll many > 1 ; turns 2 ; draw 3 ;").split(" ");
        StringBuilder text = new StringBuilder();
        boolean whole = true;
        for (String token : tokens) {
            Due.faulty(text + "?", 1, text.length());
            if (!token.equals("pace")) {
                Due.faulty(text + "pace", 2, text.length());
            }
            text.append(token).append(' ');
            whole = token.equals(";");
            Due.faulty(text.toString(), whole ? 0 : 2, whole ? -1 : text.length());
        }
    }

    private static void tape() {
        int blank = 0x20202020;
        Sentences.sentence("`TalkBridge()`: An empty RIVER.");
        int[] first = {0, 0, 0, 0, 0, 0, 0, 0, 0, 0, 0, 0, 0, 0, 3, 20, 7};
        TalkBridge made = new TalkBridge();
        for (int what = 0; what < first.length; what++) {
            Due.due("about(" + what + ")", made.about(what), first[what]);
        }
        Sentences.sentence("Twenty bytes come behind those on the TAPE, of each number the highest first: how many there are; "
            + "NONE, and nothing comes, if there would be more than 1,600.");
        TalkBridge x = new TalkBridge();
        // draw 12; in the first eight bytes
        Due.due("feed 1", x.feed(0x64726177, 0x2031323b, blank, blank, blank), 20);
        for (int i = 2; i <= 80; i++) {
            Due.due("feed " + i, x.feed(blank, blank, blank, blank, blank), 20 * i);
        }
        Photo.refused(x, "feed 81", y -> y.feed(0, 0, 0, 0, 0), -1);
        Due.due("end(1581)", x.end(1581), 1581);
        Photo.refused(x, "feed behind 1581", y -> y.feed(0, 0, 0, 0, 0), -1);
        Due.due("end(1580)", x.end(1580), 1580);
        Due.due("feed behind 1580", x.feed(blank, blank, blank, blank, blank), 1600);
        Due.due("no byte of what was refused is there", x.river(), 0);
        Due.due("the highest first", x.about(6), 12);
        Due.due("feed of bytes above 127", x.feed(0x3b00ffff, -1, Integer.MIN_VALUE, 0, 0), 20);
        x.river();
        Due.due("; comes first", x.fault(0), 2);
        Due.due("behind those on the TAPE", x.feed(blank, blank, blank, blank, blank), 40);
        Sentences.sentence("The TAPE has its first n bytes: n; NONE, doing nothing, if it has not so many, or n is below 0.");
        TalkBridge cut = new TalkBridge();
        Due.due("end(0) of none", cut.end(0), 0);
        Photo.refused(cut, "end(1) of none", y -> y.end(1), -1);
        cut.feed(0x64726177, 0x20313233, 0x3b202020, blank, blank);
        for (int wrong : new int[] {21, -1, 1600, Integer.MIN_VALUE, Integer.MAX_VALUE}) {
            Photo.refused(cut, "end(" + wrong + ") of 20", y -> y.end(wrong), -1);
        }
        Due.due("end(20)", cut.end(20), 20);
        Due.due("end(9)", cut.end(9), 9);
        Photo.refused(cut, "end(10) of 9", y -> y.end(10), -1);
        Due.due("river()", cut.river(), 0);
        Due.due("its first nine", cut.about(6), 123);
        Due.due("end(1): the TAPE is empty then", cut.end(1), -1);
    }

    /** With something of all that there can be. */
    private static TalkBridge full() {
        TalkBridge x = Due.river(TWO + "say a to b 4 lie;bridge 9 bears 1 mends 2 room 2;toll 0;turns 1;draw 50;");
        x.later(5);
        x.cross(1);
        x.cross(1);
        x.cross(3);
        x.mend();
        x.cross(3);
        x.undo();
        x.image(1);
        x.took(3, true);
        x.soonest();
        return x;
    }

    private static void rivers() {
        Sentences.sentence("The TAPE (empty then) is the RIVER (all as told, a whole bridge, minute 0, nothing SAID, HEARD, no ACTS are kept, "
            + "nothing is TIMED, nothing lies there, BOXES are empty then; the TIME of telling stays): how many PERSONS;");
        TalkBridge x = full();
        x.undo();
        Due.due("broken before", x.about(4), 1);
        Due.feed(x, "person c pace 3 coins 8 over;person d pace 1;say c to d 5;draw 9;");
        Due.due("river()", x.river(), 2);
        int[] now = {2, 1, 1, 0, 0, 0, 9, 0, 0, 0, 5, 0, 0, 0, 3, 20, 7};
        for (int what = 0; what < now.length; what++) {
            Due.due("about(" + what + ")", x.about(what), now[what]);
        }
        Due.due("nothing HEARD", x.matter(0, 5), 3);
        Due.due("nothing HEARD", x.person(0, 3), 0);
        Due.due("no ACTS", x.undo(), false);
        Due.due("none taken back", x.redo(), false);
        Due.due("nothing TIMED", x.untell(0), false);
        Due.due("nothing lies there", x.lies(0), -2);
        Due.due("BOX 1 is empty", x.back(1), -1);
        Due.due("toll is as if it were not told", x.group(2, 4), 0);
        Due.due("empty then: river() of nothing", x.river(), 0);
        nothingIsLeftOver();
        Sentences.sentence("NONE: a FAULT (all stays).");
        TalkBridge kept = full();
        Due.feed(kept, "person c pace 1;draw 7;x");
        Photo.refused(kept, "river()", TalkBridge::river, -1);
        Due.due("the FAULT", kept.fault(0), 2);
        Due.due("its place", kept.fault(1), 23);
        Due.due("the TAPE", kept.end(23), 23);
        Due.due("what was taken back", kept.redo(), true);
        Due.due("the BOX", kept.back(1), kept.about(5));
        Due.due("what is TIMED", kept.untell(0), true);
        Due.due("river() without it", kept.river(), 1);
        Due.due("about(6)", kept.about(6), 7);
    }

    /** Whatever was read before, with a FAULT or without: what a text does not tell is as if nothing had been told ever. */
    private static void nothingIsLeftOver() {
        String all = "person a pace 2 coins 9 over;person b pace 3 coins 8 over;person c pace 1 over;say a to b 5 lie;say b to a 6 lie;"
            + "bridge 50 bears 60 mends 50 room 2;long 70;toll 80 + 0;turns 90;draw 100;";
        String[] before = {all, all + "x", all + "draw 1;", ""};
        for (int i = 0; i < 16; i++) {
            TalkBridge x = new TalkBridge();
            Due.feed(x, before[i / 4]);
            x.river();
            x.was(0, true);
            x.end(0);
            Due.feed(x, before[i % 4]);
            x.river();
            x.end(0);
            Due.feed(x, "person d pace 1;person e pace 1;say d to e 30;");
            Due.due("river()", x.river(), 2);
            int[] now = {2, 1, 0, 0, 0, 0, 0, 0, 0, 0, 0, 0, 0, 0, 3, 20, 7};
            for (int what = 0; what < now.length; what++) {
                Due.due("about(" + what + ")", x.about(what), now[what]);
            }
            Due.due("LENGTH", x.group(3, 2), 33);
            Due.due("TOLL", x.group(3, 4), 0);
            Due.due("no lie", x.matter(0, 3), 0);
            Due.due("coins", x.person(0, 1), 0);
            Due.due("turns", x.odds(1, 0), 1);
            Due.due("nothing is known of who crossed", x.fits(9), 3);
            Due.due("what is told now is not what was told", x.was(0, false), 0);
            Due.due("e alone", x.fits(0), 1);
            Due.due("cross", x.cross(3), 33);
        }
    }

    private static void latestFault() {
        Sentences.sentence("Of the latest river() what 0: its FAULT (0), 1: its place (NONE). NONE for another what.");
        TalkBridge x = new TalkBridge();
        for (int what : new int[] {-1, 2, 3, Integer.MIN_VALUE, Integer.MAX_VALUE}) {
            Due.due("fault(" + what + ")", x.fault(what), -1);
        }
        Due.due("before any: fault(0)", x.fault(0), 0);
        Due.due("before any: fault(1)", x.fault(1), -1);
        Due.feed(x, "draw 1000;");
        Due.due("not of the TAPE, of river()", x.fault(0), 0);
        x.river();
        Due.due("fault(0)", x.fault(0), 4);
        Due.due("fault(1)", x.fault(1), 5);
        Due.due("fault(2)", x.fault(2), -1);
        x.end(0);
        Due.due("it stays till the next", x.fault(0), 4);
        x.river();
        Due.due("none: fault(0)", x.fault(0), 0);
        Due.due("none: fault(1)", x.fault(1), -1);
    }
}
