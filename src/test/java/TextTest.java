/** Promises 1 to 5: the TAPE, the RIVER and its FAULTS, with what the grammar and its limits allow. */
public final class TextTest {
    private static final String TWO = "person a pace 1;person b pace 2;";

    public static void main(String[] args) {
        newObject();
        tape();
        riverTakesOver();
        riverKeepsAll();
        noTokens();
        outOfPlace();
        tooMany();
        namesAndNumbers();
        formulaLimits();
        formulaValues();
        Due.finish("TextTest");
    }

    private static void newObject() {
        TalkBridge x = new TalkBridge();
        int[] first = {0, 0, 0, 0, 0, 0, 0, 0, 0, 0, 0, 0, 0, 0, 3, 20, 7, -1};
        for (int what = 0; what < first.length; what++) {
            Due.due("new about(" + what + ")", x.about(what), first[what]);
        }
        Due.due("new about(-1)", x.about(-1), -1);
        Due.due("new fault(0)", x.fault(0), 0);
        Due.due("new fault(1)", x.fault(1), -1);
        Due.due("new fault(2)", x.fault(2), -1);
        Due.due("new fault(-1)", x.fault(-1), -1);
        Due.due("new undo", x.undo(), false);
        Due.due("new redo", x.redo(), false);
        Due.due("new lies(0)", x.lies(0), -2);
        Due.due("new back(0)", x.back(0), -1);
    }

    private static void tape() {
        TalkBridge x = new TalkBridge();
        for (int i = 1; i <= 80; i++) {
            Due.due("feed " + i, x.feed(0x20202020, 0x20202020, 0x20202020, 0x20202020, 0x20202020), 20 * i);
        }
        Due.due("feed 81", x.feed(0, 0, 0, 0, 0), -1);
        Due.due("about(11) of a full tape", x.about(11), 1600);
        Due.due("end(1601)", x.end(1601), -1);
        Due.due("end(-1)", x.end(-1), -1);
        Due.due("end(1600)", x.end(1600), 1600);
        Due.due("end(1581)", x.end(1581), 1581);
        Due.due("feed behind 1581", x.feed(0, 0, 0, 0, 0), -1);
        Due.due("end(1582)", x.end(1582), -1);
        Due.due("end(1580)", x.end(1580), 1580);
        Due.due("feed behind 1580", x.feed(0x20202020, 0x20202020, 0x20202020, 0x20202020, 0x20202020), 1600);
        Due.due("river of blanks", x.river(), 0);
        Due.due("about(11) behind river", x.about(11), 0);
        Due.due("end(0)", x.end(0), 0);
        // "draw", " 12;", then bytes that are cut off: the highest byte of each number comes first
        Due.due("feed draw", x.feed(0x64726177, 0x2031323b, -1, 0, 1), 20);
        Due.due("end(8)", x.end(8), 8);
        Due.due("river", x.river(), 0);
        Due.due("about(6)", x.about(6), 12);
    }

    private static void riverTakesOver() {
        TalkBridge x = Due.river(TWO + "say a to b 4;bridge 9 bears 1 mends 2 room 2;long 7;turns 1;draw 50;");
        x.later(5);
        x.cross(1);
        x.cross(2);
        x.undo();
        x.image(1);
        x.took(3, true);
        x.soonest();
        Due.feed(x, "person c pace 3 coins 8 over;draw 9;");
        Due.due("river", x.river(), 1);
        int[] now = {1, 0, 1, 0, 0, 0, 9, 0, 0, 0, 5, 0, 0, 0, 3, 20, 7};
        for (int what = 0; what < now.length; what++) {
            Due.due("about(" + what + ") of the next river", x.about(what), now[what]);
        }
        Due.due("back(1)", x.back(1), -1);
        Due.due("lies(0)", x.lies(0), -2);
        Due.due("redo", x.redo(), false);
        Due.due("person(0, 1)", x.person(0, 1), 8);
        Due.due("group(1, 2): long is not told any more", x.group(1, 2), 3);
    }

    private static void riverKeepsAll() {
        TalkBridge x = Due.river(TWO + "say a to b 4;");
        x.cross(1);
        x.took(1, true);
        x.image(0);
        x.soonest();
        Due.feed(x, "person c pace 1;x");
        Due.due("river with a fault", x.river(), -1);
        Due.due("fault(0)", x.fault(0), 2);
        Due.due("fault(1)", x.fault(1), 16);
        int[] now = {2, 1, 1, 0, 0, 3, 71, 1, 0, 1, 0, 17, 0, 2, 3, 20, 7};
        for (int what = 0; what < now.length; what++) {
            Due.due("about(" + what + ") behind a fault", x.about(what), now[what]);
        }
        Due.due("end(16): all stays, the tape too", x.end(16), 16);
        Due.due("river mended", x.river(), 1);
        Due.due("fault(0) mended", x.fault(0), 0);
        Due.due("fault(1) mended", x.fault(1), -1);
    }

    private static void noTokens() {
        Due.faulty("A", 1, 0);
        Due.faulty("\tdraw 1;", 1, 0);
        Due.faulty("draw 1;\r", 1, 7);
        Due.faulty("draw " + (char) 233 + ";", 1, 5);
        Due.faulty("draw " + (char) 0 + ";", 1, 5);
        Due.faulty("draw 1,", 1, 6);
        Due.faulty("draw 12345;", 1, 5);
        Due.faulty("draw 1a;", 1, 5);
        Due.faulty("person abcdefghi pace 1;", 1, 7);
        Due.faulty("personabc", 1, 0);
        Due.faulty("long 1!;", 1, 6);
        Due.faulty("x A", 2, 0);
        Due.sound("\n\n  draw\n12 ; ");
        Due.sound("draw12;turns0;");
        Due.sound("person abcdefgh pace1 coins9 over;");
        Due.sound("draw 0999;");
        Due.sound("person z pace 1;person zaz pace 9;say zaz to z 1;");
    }

    private static void outOfPlace() {
        Due.faulty(";", 2, 0);
        Due.faulty("draw", 2, 4);
        Due.faulty("draw  ", 2, 6);
        Due.faulty("draw ;", 2, 5);
        Due.faulty("draw 1", 2, 6);
        Due.faulty("draw 1 2;", 2, 7);
        Due.faulty("12", 2, 0);
        Due.faulty("person over pace 1;", 2, 7);
        Due.faulty("person 1 pace 1;", 2, 7);
        Due.faulty("person a coins 1;", 2, 9);
        Due.faulty("person a pace 1 over coins 2;", 2, 21);
        Due.faulty("person a pace a;", 2, 14);
        Due.faulty(TWO + "say a b 1;", 2, 38);
        Due.faulty(TWO + "say a to b lie;", 2, 43);
        Due.faulty(TWO + "say a to b 1 lie lie;", 2, 49);
        Due.faulty(TWO + "say to to b 1;", 2, 36);
        Due.faulty("bridge bears 1;", 2, 7);
        Due.faulty("bridge 1 mends 1 bears 1;", 2, 17);
        Due.faulty("long ;", 2, 5);
        Due.faulty("long 1 + ;", 2, 9);
        Due.faulty("long 1 + not 1;", 2, 9);
        Due.faulty("long 1 < 2 < 3;", 2, 11);
        Due.faulty("long (1;", 2, 7);
        Due.faulty("long 1);", 2, 6);
        Due.faulty("long name;", 2, 5);
        Due.faulty("long - 1;", 2, 5);
        Due.faulty("toll not;", 2, 8);
        Due.faulty("to 1;", 2, 0);
        // no word that stands for itself is a NAME; words of the grammar's own rules are
        String[] own = {"person", "pace", "coins", "over", "say", "to", "lie", "bridge", "bears", "mends", "room", "long",
            "toll", "turns", "draw", "or", "and", "not", "steps", "words", "lies", "many", "length", "minute"};
        for (String word : own) {
            Due.faulty("person " + word + " pace 1;", 2, 7);
        }
        Due.sound("person e pace 1;person river pace 1;person n pace 1;person unit pace 1;person liee pace 1;say e to unit 1;");
    }

    private static void tooMany() {
        StringBuilder persons = new StringBuilder();
        for (int i = 0; i < 7; i++) {
            persons.append("person ").append((char) ('a' + i)).append(" pace 1;");
        }
        Due.sound(persons.toString());
        Due.faulty(persons + "person h pace 1;", 2, persons.length());
        StringBuilder matters = new StringBuilder(TWO);
        for (int i = 0; i < 12; i++) {
            matters.append("say a to b 1;");
        }
        Due.sound(matters.toString());
        Due.faulty(matters + "say", 2, matters.length());
        String[] once = {"bridge 1;", "long 1;", "toll 1;", "turns 1;", "draw 1;"};
        for (String line : once) {
            Due.faulty(line + TWO + line, 2, line.length() + TWO.length());
        }
        Due.sound("bridge 1;long 1;toll 1;turns 1;draw 1;");
    }

    private static void namesAndNumbers() {
        Due.faulty(TWO + "person a pace 1;", 3, 39);
        Due.faulty(TWO + "say a to a 1;", 3, 41);
        Due.faulty(TWO + "say c to a 1;", 5, 36);
        Due.faulty(TWO + "say a to c 1;", 5, 41);
        Due.faulty("say a to b 1;" + TWO, 5, 4);
        Due.faulty("person a pace 1;person ab pace 1;say abc to a 1;", 5, 37);
        String[] before = {"person a pace ", "person a pace 1 coins ", TWO + "say a to b ", "bridge ", "bridge 1 bears ",
            "bridge 1 mends ", "bridge 1 room ", "turns ", "draw "};
        int[] least = {1, 0, 0, 1, 0, 1, 1, 0, 0};
        int[] most = {9, 999, 99, 99, 999, 60, 7, 100, 999};
        for (int i = 0; i < before.length; i++) {
            Due.sound(before[i] + least[i] + ";");
            Due.sound(before[i] + most[i] + ";");
            Due.faulty(before[i] + (most[i] + 1) + ";", 4, before[i].length());
            if (least[i] > 0) {
                Due.faulty(before[i] + "0;", 4, before[i].length());
            }
        }
        Due.faulty("draw 1000 A", 4, 5);
    }

    private static void formulaLimits() {
        String thirty = "1" + "+1".repeat(29);
        TalkBridge x = Due.river("long " + thirty + ";toll " + thirty + ";");
        Due.due("about(12) at the limit", x.about(12), 60);
        Due.faulty("long " + thirty + "+1;", 2, 5 + 60);
        Due.faulty("long 1;toll " + thirty + "+(1);", 2, 12 + 60);
        // a unit ( e ) is one of the units, and counted at its first sign
        Due.faulty("long (1)" + "+1".repeat(29) + ";", 2, 5 + 3 + 57);
        Due.due("about(12) of ((2))", Due.river("long ((2));").about(12), 3);
        Due.sound("long " + "(".repeat(7) + "1" + ")".repeat(7) + ";");
        Due.faulty("long " + "(".repeat(8) + "1" + ")".repeat(8) + ";", 2, 12);
        Due.sound("long " + "not ".repeat(7) + "1;");
        Due.faulty("long " + "not ".repeat(8) + "1;", 2, 33);
        Due.sound("long not (not (not (not 1)));");
        Due.faulty("long not (not (not (not (1))));", 2, 24);
        Due.sound("long (not (not (not 1)));");
        Due.faulty("long (not (not (not (not 1))));", 2, 21);
        Due.faulty("long ((not (not (not (not 1)))));", 2, 21);
        Due.sound("long (((((((1)))))))+(((((((1)))))));");
    }

    private static void formulaValues() {
        value("1 + 2 * 3", 7);
        value("(1 + 2) * 3", 9);
        value("9 - 3 - 2", 4);
        value("99 / 7", 14);
        value("99 % 7", 1);
        value("1 + 5 / 0", 1);
        value("1 + 5 % 0", 1);
        value("20 + (1 - 9) / 3", 18);
        value("20 + (1 - 9) % 3", 18);
        value("100 / 10 / 5", 2);
        value("100 / 10 * 5", 50);
        value("5 + (3 < 4)", 6);
        value("5 + (4 < 4)", 5);
        value("5 + (4 > 3)", 6);
        value("5 + (4 > 4)", 5);
        value("5 + (4 = 4)", 6);
        value("5 + (4 = 3)", 5);
        value("5 + (2 and 4)", 6);
        value("5 + (0 and 4)", 5);
        value("5 + (4 and 1)", 6);
        value("5 + (4 and 0)", 5);
        value("5 + (4 or 0)", 6);
        value("5 + (0 or 4)", 6);
        value("5 + (0 or 0)", 5);
        value("5 + (1 or 0 and 0)", 6);
        value("5 + (not 7)", 5);
        value("5 + (not 0)", 6);
        value("5 + (not 1 < 2)", 5);
        value("5 + (not not 7)", 6);
        value("1 < 2 + 5", 1);
        value("0", 1);
        value("0 - 7", 1);
        value("9999", 9999);
        value("9999 + 1", 9999);
        // 9999 * 9999 * 30 is 2999400030, which wraps to below 0
        value("9999 * 9999 * 30", 1);
        value("5 + (0 - 9999 * 9999 * 30 > 0)", 6);
        value("steps", 3);
        value("many + 6", 7);
        value("words + 6", 6);
        value("lies + 6", 6);
        value("length + 6", 6);
        value("minute + 6", 6);
        // the least int by -1 wraps to itself, and leaves no rest
        TalkBridge x = Due.river("person a pace 1;long 7 + (8192 * 8192 * 32 = 0 - 8192 * 8192 * 32)"
            + " + (8192 * 8192 * 32 / (0 - 1) < 0) + 8192 * 8192 * 32 % (0 - 1);");
        Due.due("LENGTH by the least int", x.group(1, 2), 9);
    }

    private static void value(String formula, int length) {
        TalkBridge x = Due.river("person a pace 1;long " + formula + ";");
        Due.due("LENGTH by long " + formula, x.group(1, 2), length);
    }
}
