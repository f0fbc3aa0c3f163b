/** What the document says of squads kept and of counts, sentence by sentence. */
public final class KeptBoundsTest {

    private static final int BAD = -1, NO = -2, FULL = -3;
    private static final int LEFT = 0, RIGHT = 1, ABOUT = 2;

    private static final Due DUE = new Due();

    private KeptBoundsTest() {}

    public static void main(String[] args) {
        twoKeptAtMost();
        noneKept();
        theLastKeptFirst();
        allThatIsKept();
        keptBesideUndone();
        keptAndKeptAgain();
        nothingIsUndoneThen();
        countFromNoneToMost();
        countOfOtherNumbers();
        firstOfSeveral();
        DUE.end();
    }

    private static void is(String call, int got, int want) {
        DUE.is(call, got, want);
    }

    private static void twoKeptAtMost() {
        DUE.says("KEPT are FACINGS, EYES, whom all look at, WORDS: 2 at most. KEPT: how many. FULL");
        HayFootStraw x = Due.laid("m0,0,0,0;");
        is("kept at first", x.count(4), 0);
        is("the first", x.keep(), 1);
        is("one", x.count(4), 1);
        is("the second", x.keep(), 2);
        is("two", x.count(4), 2);
        for (int k = 0; k < 3; k++) {
            x.word(RIGHT);
            is("the third", x.keep(), FULL);
            is("still two", x.count(4), 2);
        }
        is("back", x.back(), 1);
        is("not by what was refused", x.man(0, 1), 0);
        is("one more", x.keep(), 2);
        is("full again", x.keep(), FULL);
    }

    private static void noneKept() {
        DUE.says("As KEPT last: how many are left. NO");
        HayFootStraw x = Due.laid("m0,0,0,0;");
        x.word(RIGHT);
        is("back without", x.back(), NO);
        is("can be undone still", x.count(3), 1);
        is("words stay", x.count(1), 1);
        x.keep();
        is("back", x.back(), 0);
        is("back again", x.back(), NO);
        x.keep();
        x.keep();
        is("of two", x.back(), 1);
        is("of one", x.back(), 0);
        is("of none", x.back(), NO);
    }

    private static void theLastKeptFirst() {
        DUE.says("As KEPT last");
        HayFootStraw x = Due.laid("m0,0,0,0;");
        x.word(RIGHT);
        x.keep();
        x.word(RIGHT);
        x.keep();
        x.word(RIGHT);
        x.back();
        is("the second", x.man(0, 1), 2);
        x.back();
        is("the first", x.man(0, 1), 1);
        x.word(ABOUT);
        x.keep();
        x.word(LEFT);
        x.back();
        is("one kept since", x.man(0, 1), 3);
    }

    private static void allThatIsKept() {
        DUE.says("KEPT are FACINGS, EYES, whom all look at, WORDS");
        HayFootStraw x = Due.laid("m1,0,0,10;m2,1,0,0;m3,2,0,0;m0,3,0,0;");
        x.word(RIGHT);
        x.eyes(1);
        x.look(1, 2);
        x.shout(3);
        x.keep();
        x.word(LEFT);
        x.word(LEFT);
        x.eyes(0);
        x.look(1, 3);
        x.look(0, 3);
        x.shout(3);
        x.back();
        int[] facing = {3, 0, 2, 2};
        int[] looks = {0, 2, 0, 0};
        for (int i = 0; i < 4; i++) {
            is("facing of " + i, x.man(i, 1), facing[i]);
            is("looks of " + i, x.man(i, 2), looks[i]);
            is("due of " + i, x.man(i, 4), (i + 1) % 4);
        }
        is("eyes", x.count(2), 1);
        is("words", x.count(1), 1);
        is("WRONG", x.who(0), 0b1111);
        is("ERRED", x.who(2), 0b0111);
        is("LATE by the word ahead", x.turn(2, LEFT), 3);
        // At the word 1 man 0 draws 5; at the word 3 he would draw 4.
        HayFootStraw draws = Due.laid("m1,0,0,5;");
        draws.word(ABOUT);
        draws.keep();
        draws.word(ABOUT);
        draws.word(ABOUT);
        is("errs at word 3", draws.word(LEFT), 1);
        draws.back();
        is("does not err at word 1", draws.word(LEFT), 0);
    }

    private static void keptBesideUndone() {
        DUE.says("UNDONE is the latest of these (what is KEPT is none of them)");
        HayFootStraw x = Due.laid("m0,0,0,0;");
        x.word(RIGHT);
        x.keep();
        is("can be undone", x.count(3), 1);
        x.undo();
        is("kept behind undo", x.count(4), 1);
        is("facing", x.man(0, 1), 0);
        is("back", x.back(), 0);
        is("facing behind back", x.man(0, 1), 1);
        is("words behind back", x.count(1), 1);
        is("back is not undone", x.undo(), NO);
    }

    private static void keptAndKeptAgain() {
        DUE.says("KEPT: how many; as KEPT last: how many are left, over and over");
        HayFootStraw x = Due.laid("m3,0,0,0;m2,0,0,0;");
        for (int k = 0; k < 20; k++) {
            x.word(k % 3);
            int facing = x.man(0, 1);
            is("keep " + k, x.keep(), 1);
            x.word(ABOUT);
            is("keep more " + k, x.keep(), 2);
            x.word(LEFT);
            is("back " + k, x.back(), 1);
            is("words " + k, x.count(1), k + 2);
            is("back more " + k, x.back(), 0);
            is("words still " + k, x.count(1), k + 1);
            is("facing " + k, x.man(0, 1), facing);
        }
    }

    private static void nothingIsUndoneThen() {
        DUE.says("nothing is UNDONE then");
        HayFootStraw x = Due.laid("m0,0,0,0;");
        for (int k = 0; k < 8; k++) x.word(RIGHT);
        x.keep();
        is("eight can be", x.count(3), 8);
        x.back();
        is("none can be", x.count(3), 0);
        is("undo", x.undo(), NO);
        for (int k = 1; k <= 9; k++) {
            x.word(LEFT);
            is("anew", x.count(3), Math.min(k, 8));
        }
        for (int more = 7; more >= 0; more--) is("undo anew", x.undo(), more);
        is("no more", x.undo(), NO);
        is("words", x.count(1), 9);
    }

    private static void countFromNoneToMost() {
        DUE.says("How many: 0 MEN, 1 WORDS, 2 1 if EYES are shut, 3 that can be UNDONE, 4 KEPT, 5 letters of THE TEXT");
        HayFootStraw x = new HayFootStraw();
        int[] first = {7, 0, 0, 0, 0, 0};
        for (int what = 0; what < 6; what++) is("at first, " + what, x.count(what), first[what]);
        String eight = "m0,0,0,0;".repeat(8) + "e1;";
        Due.lay(x, eight + "z00;".repeat(31) + "z");
        is("letters of a full text", x.count(5), 200);
        is("a text with a fault is not laid", x.count(0), 7);
        Due.lay(x, eight);
        for (int k = 0; k < 12; k++) x.word(RIGHT);
        x.keep();
        x.keep();
        int[] most = {8, 12, 1, 8, 2, 75};
        for (int what = 0; what < 6; what++) is("at most, " + what, x.count(what), most[what]);
        Due.lay(x, "m0,0,0,0;");
        int[] least = {1, 0, 0, 0, 0, 9};
        for (int what = 0; what < 6; what++) is("at least, " + what, x.count(what), least[what]);
    }

    private static void countOfOtherNumbers() {
        DUE.says("count: BAD");
        HayFootStraw x = new HayFootStraw();
        for (int what : new int[] {Integer.MIN_VALUE, -256, -1, 6, 7, 256, 65536, Integer.MAX_VALUE}) {
            is("count " + what, x.count(what), BAD);
        }
    }

    private static void firstOfSeveral() {
        DUE.says("BAD; NO; NONE; FULL. Of several the first");
        HayFootStraw x = Due.laid("m0,0,0,0;m0,1,0,0;");
        x.wipe();
        for (int k = 0; k < 200; k++) x.write('m');
        is("no letter, and a full text", x.write(31), BAD);
        is("a letter, and a full text", x.write(32), FULL);
        is("no number of a plan, and there is none", x.plan(5), BAD);
        is("no man, and nobody to follow safely", x.safe(2), BAD);
        is("no man, no what", x.man(2, 5), BAD);
        is("no men", x.look(2, -1), BAD);
        is("no man, word, part", x.right(2, 3, 2), BAD);
        is("no man, facing", x.which(-1, 4), BAD);
    }
}
