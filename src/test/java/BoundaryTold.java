import java.util.function.Consumer;
import java.util.function.ToIntFunction;

/** The boundaries that the document names for what is TIMED: its part 4, and promises 41 to 48. */
final class BoundaryTold {
    /** TIMES: a 4, b 2, c 1, a b 7, a c 4, b c 2, all 7; d is over. */
    private static final String FOUR =
        "person a pace 1;person b pace 2;person c pace 4;person d pace 1 over;say a to b 3;bridge 4;";
    private static final String TWO = "person a pace 1;person b pace 1;";

    private BoundaryTold() {
    }

    static void all() {
        timed();
        known();
        numbers();
        untell();
        later();
        fits();
        sure();
        ask();
    }

    /** How many GROUPS fit, once that was told. */
    private static void fits(String told, Consumer<TalkBridge> teller, int many) {
        TalkBridge x = Due.river(FOUR);
        teller.accept(x);
        Due.due("fits(0) by " + told, x.fits(0), many);
    }

    private static void timed() {
        Sentences.sentence("that it took so many minutes at least, or did not; that one was with it, or was not; that they were so many at least, or were not.");
        int[] minutes = {1, 2, 3, 4, 5, 7, 8, 9999};
        int[] took = {7, 6, 4, 4, 2, 2, 0, 0};
        for (int i = 0; i < minutes.length; i++) {
            int told = minutes[i];
            fits("took " + told, x -> x.took(told, true), took[i]);
            fits("took not " + told, x -> x.took(told, false), 7 - took[i]);
        }
        int[] was = {4, 4, 4, 0};
        for (int person = 0; person < 4; person++) {
            int told = person;
            fits("was " + person, x -> x.was(told, true), was[person]);
            fits("was not " + person, x -> x.was(told, false), 7 - was[person]);
        }
        int[] were = {0, 7, 4, 1, 0, 0, 0, 0};
        for (int many = 1; many <= 7; many++) {
            int told = many;
            fits("were " + many, x -> x.were(told, true), were[many]);
            fits("were not " + many, x -> x.were(told, false), 7 - were[many]);
        }
        fits("two that can't be both", x -> {
            x.was(0, true);
            x.was(0, false);
        }, 0);
    }

    private static void known() {
        Sentences.sentence("TIMED, 30 at most, is TOLD at a TIME of telling (0 at first, goes on), UNTOLD at a later one or the same, "
            + "of a GROUP on the near BANK that crossed (by what is now):");
        TalkBridge x = Due.river(FOUR);
        Due.due("0 at first", x.about(10), 0);
        x.was(0, true);
        Due.due("known at 0", x.fits(0), 4);
        x.untell(0);
        Due.due("UNTOLD at the same", x.fits(0), 7);
        Due.due("UNTOLD at the same, known later", x.fits(9), 7);
        x.later(3);
        x.was(0, true);
        x.cross(1);
        Due.due("by what is now a is not near", x.fits(3), 0);
        Due.due("by what is now b, c, b c", x.fits(2), 3);
        x.undo();
        Due.due("by what is now he is", x.fits(3), 4);
        TalkBridge said = Due.river(FOUR);
        said.took(7, true);
        said.cross(3);
        said.cross(3);
        Due.due("by what is now nothing is to be said", said.fits(0), 0);
        Sentences.sentence("As known at k those count that were TOLD at k or before, not UNTOLD at k or before.");
        TalkBridge k = Due.river(FOUR);
        k.later(5);
        k.was(0, true);
        k.later(2);
        k.untell(0);
        Due.due("TOLD at 5, known at 4", k.fits(4), 7);
        Due.due("known at 5", k.fits(5), 4);
        Due.due("UNTOLD at 7, known at 6", k.fits(6), 4);
        Due.due("known at 7", k.fits(7), 7);
        Due.due("known at 8, which is to come", k.fits(8), 7);
        k.were(2, true);
        Due.due("known before all", k.fits(Integer.MIN_VALUE), 7);
        Due.due("known at -1", k.fits(-1), 7);
        Due.due("known at 6", k.fits(6), 4);
        Due.due("known at 7", k.fits(7), 4);
        Due.due("known at last", k.fits(Integer.MAX_VALUE), 4);
        Due.due("sure as known at 6", k.sure(0, 6), 1);
        Due.due("sure as known at 7", k.sure(0, 7), -2);
        Due.due("ask as known at 6", k.ask(1, 6), 2);
        Due.due("ask as known at 7", k.ask(1, 7), 3);
    }

    private static void refused(TalkBridge x, String call, ToIntFunction<TalkBridge> made) {
        Photo.refused(x, call, made, -1);
    }

    private static void numbers() {
        Sentences.sentence("That it took so many minutes (1 .. 9,999) at least, or did not: its number; NONE, doing nothing, if one can't be, or there are 30.");
        for (int minutes : new int[] {0, -1, 10000, Integer.MIN_VALUE, Integer.MAX_VALUE}) {
            refused(Due.river(TWO), "took(" + minutes + ", true)", y -> y.took(minutes, true));
            refused(Due.river(TWO), "took(" + minutes + ", false)", y -> y.took(minutes, false));
        }
        TalkBridge x = Due.river(TWO);
        Due.due("took(1, true)", x.took(1, true), 0);
        Due.due("took(9999, false)", x.took(9999, false), 1);
        Sentences.sentence("That one was with it, or was not: its number; NONE likewise.");
        for (int person : BoundaryActs.NO_NUMBER) {
            refused(Due.river(TWO), "was(" + person + ", true)", y -> y.was(person, true));
        }
        refused(x, "was(2, false)", y -> y.was(2, false));
        Due.due("was(0, true)", x.was(0, true), 2);
        Due.due("was(1, false)", x.was(1, false), 3);
        Due.due("was(0, true) of nobody", new TalkBridge().was(0, true), -1);
        Sentences.sentence("That they were so many (1 .. 7) at least, or were not: its number; NONE likewise.");
        for (int many : new int[] {0, -1, 8, Integer.MIN_VALUE, Integer.MAX_VALUE}) {
            refused(Due.river(TWO), "were(" + many + ", true)", y -> y.were(many, true));
        }
        TalkBridge z = Due.river(TWO);
        Due.due("were(1, true)", z.were(1, true), 0);
        Due.due("were(7, false)", z.were(7, false), 1);
        for (int i = 2; i < 29; i++) {
            z.were(1, true);
        }
        Due.due("the thirtieth", z.was(0, true), 29);
        Due.due("it counts", z.fits(0), 2);
        refused(z, "took, with 30", y -> y.took(1, true));
        refused(z, "was, with 30", y -> y.was(0, true));
        refused(z, "were, with 30", y -> y.were(1, true));
        z.untell(29);
        refused(z, "were, with 30, one of them UNTOLD", y -> y.were(1, true));
        Due.due("it counts no more", z.fits(0), 3);
    }

    private static void untell() {
        Sentences.sentence("It is UNTOLD: true; false if it is so already, or there is none such.");
        TalkBridge x = Due.river(FOUR);
        Due.due("none", x.untell(0), false);
        x.was(0, true);
        x.was(1, true);
        Due.due("untell(2)", x.untell(2), false);
        for (int number : new int[] {-1, 30, 31, 32, Integer.MIN_VALUE, Integer.MAX_VALUE}) {
            Due.due("untell(" + number + ")", x.untell(number), false);
        }
        Due.due("nothing was done", x.fits(0), 2);
        Due.due("untell(1)", x.untell(1), true);
        Due.due("a alone is known", x.fits(0), 4);
        x.later(5);
        Due.due("untell(1) again", x.untell(1), false);
        Due.due("UNTOLD at 0 still", x.fits(2), 4);
        Due.due("untell(0)", x.untell(0), true);
        Due.due("known at 5", x.fits(5), 7);
        Due.due("known at 4", x.fits(4), 4);
        Due.due("what is TIMED", x.about(9), 2);
    }

    private static void later() {
        Sentences.sentence("So much later (0 .. 1000): the TIME of telling; NONE, doing nothing, for another number, or if it would be above 100,000.");
        TalkBridge x = new TalkBridge();
        for (int by : new int[] {-1, 1001, Integer.MIN_VALUE, Integer.MAX_VALUE}) {
            refused(x, "later(" + by + ")", y -> y.later(by));
        }
        Due.due("later(0)", x.later(0), 0);
        for (int i = 1; i <= 99; i++) {
            Due.due("later(1000)", x.later(1000), i * 1000);
        }
        Due.due("later(1)", x.later(1), 99001);
        refused(x, "later(1000) behind 99001", y -> y.later(1000));
        Due.due("later(999)", x.later(999), 100000);
        refused(x, "later(1) behind 100000", y -> y.later(1));
        refused(x, "later(1000) behind 100000", y -> y.later(1000));
        Due.due("later(0)", x.later(0), 100000);
    }

    private static void fits() {
        Sentences.sentence("FITS: GROUPS by which all that count are so.");
        Due.due("nothing is told", Due.river(FOUR).fits(0), 7);
        Due.due("nobody", new TalkBridge().fits(0), 0);
        Due.due("nobody is near", Due.river("person a pace 1 over;").fits(0), 0);
        Due.due("room", Due.river(FOUR.replace("bridge 4", "bridge 4 room 2")).fits(0), 6);
        Due.due("all seven", Due.river("person a pace 1;person b pace 1;person c pace 1;person d pace 1;person e pace 1;"
            + "person f pace 1;person g pace 1;").fits(0), 127);
        TalkBridge x = Due.river(FOUR);
        x.took(4, true);
        x.was(2, true);
        Due.due("a c, all", x.fits(0), 2);
        x.were(3, false);
        Due.due("a c", x.fits(0), 1);
    }

    private static void sure() {
        TalkBridge x = Due.river(FOUR);
        x.was(0, true);
        x.was(1, false);
        // a, a c
        Sentences.sentence("SURE of a PERSON: 1 if he is in all of these, 0 if in none.");
        Due.due("in all", x.sure(0, 0), 1);
        Due.due("in none", x.sure(1, 0), 0);
        Due.due("on the far BANK in none", x.sure(3, 0), 0);
        Sentences.sentence("SURE: 1, 0; -2 if in some alone; NONE if none FITS, or there is none such.");
        Due.due("in some", x.sure(2, 0), -2);
        Due.due("none such", x.sure(4, 0), -1);
        for (int number : BoundaryActs.NO_NUMBER) {
            Due.due("sure(" + number + ", 0)", x.sure(number, 0), -1);
        }
        x.was(0, false);
        for (int person = 0; person < 5; person++) {
            Due.due("none fits", x.sure(person, 0), -1);
        }
        Due.due("nobody", new TalkBridge().sure(0, 0), -1);
    }

    private static void ask() {
        Sentences.sentence("ASK: the PERSON of whom to know would leave the fewest of these at the most; of like ones the first.");
        TalkBridge x = Due.river(FOUR);
        Due.due("each is in 4 of 7", x.ask(0, 0), 0);
        Due.due("left", x.ask(1, 0), 4);
        x.took(3, true);
        Due.due("a is in 4 of 4, b and c in 2", x.ask(0, 0), 1);
        Due.due("left", x.ask(1, 0), 2);
        x.took(7, true);
        Due.due("a and b are in 2 of 2, c in 1", x.ask(0, 0), 2);
        Due.due("left", x.ask(1, 0), 1);
        x.was(2, false);
        Due.due("one is left, whomever one asks of", x.ask(0, 0), 0);
        Due.due("left", x.ask(1, 0), 1);
        TalkBridge out = Due.river(FOUR);
        out.were(2, true);
        out.was(2, true);
        // a c, b c, all: a and b are in 2 of 3
        Due.due("a", out.ask(0, 0), 0);
        Due.due("left", out.ask(1, 0), 2);
        Sentences.sentence("ASK what 0: the PERSON, 1: how many are left at the most; NONE if none FITS, or for another what.");
        for (int what : new int[] {-1, 2, 3, Integer.MIN_VALUE, Integer.MAX_VALUE}) {
            Due.due("ask(" + what + ", 0)", out.ask(what, 0), -1);
        }
        out.was(2, false);
        Due.due("none fits: ask(0, 0)", out.ask(0, 0), -1);
        Due.due("none fits: ask(1, 0)", out.ask(1, 0), -1);
        Due.due("before it was told one does", Due.river(FOUR).ask(0, -1), 0);
        Due.due("nobody", new TalkBridge().ask(0, 0), -1);
        TalkBridge far = Due.river("person a pace 1 over;person b pace 1;");
        Due.due("b is sure, so is that a was not with it", far.ask(0, 0), 0);
    }
}
