/** What the document says of words, shouts, eyes, looks and how they are undone, sentence by sentence. */
public final class WordBoundsTest {

    private static final int BAD = -1, NO = -2;
    private static final int LEFT = 0, RIGHT = 1, ABOUT = 2;
    private static final int[] FAR = {Integer.MIN_VALUE, -256, -2, -1, 256, 65536, Integer.MAX_VALUE};
    /** Where LEFT, RIGHT and ABOUT bring those who faced 0, 1, 2, 3. */
    private static final int[][] TOLD = {{3, 0, 1, 2}, {1, 2, 3, 0}, {2, 3, 0, 1}};
    private static final int[][] ASTRAY = {{1, 2, 3, 0}, {3, 0, 1, 2}, {2, 3, 0, 1}};

    private static final Due DUE = new Due();

    private WordBoundsTest() {}

    public static void main(String[] args) {
        menThereAre();
        whatOfAMan();
        wordsThereAre();
        facingsGoRound();
        whoErrsGoesRound();
        dueGoesRound();
        nobodyErrsByAbout();
        drawLessThanP();
        drawOfEachMan();
        drawOfEachWord();
        sureAndLateNeverDraw();
        lateAtTheFirstWord();
        lateBehindShouts();
        lookingOnAndOn();
        comingRoundToHimself();
        comingRoundInARing();
        comingRoundToOthers();
        eyesShut();
        wrongFromNoneToAll();
        shoutAtEach();
        shoutFromOneToAll();
        shoutAndThoseWhoComeRound();
        shoutWithEyesShut();
        eyesOpenOrShut();
        lookAtEach();
        theLastEightUndone();
        eachKindIsUndone();
        undoneAndDoneAgain();
        whoByBits();
        twiceByTwoWrongs();
        erredAtAnyTime();
        manyWords();
        nineHundredNinetyNineWords();
        DUE.end();
    }

    private static void is(String call, int got, int want) {
        DUE.is(call, got, want);
    }

    private static void facing(HayFootStraw x, int... want) {
        for (int i = 0; i < want.length; i++) is("facing of " + i, x.man(i, 1), want[i]);
    }

    private static void menThereAre() {
        DUE.says("BAD: a number is none that is told (MEN: such as there are)");
        for (int men = 1; men <= 8; men++) {
            HayFootStraw x = Due.laid("m0,3,0,7;".repeat(men));
            for (int what = 0; what < 5; what++) {
                int[] want = {0, 3, 0, 7, 3};
                is("the last of " + men, x.man(men - 1, what), want[what]);
                is("one beyond " + men, x.man(men, what), BAD);
                is("one below " + men, x.man(-1, what), BAD);
            }
            for (int far : FAR) is("man " + far, x.man(far, 0), BAD);
        }
    }

    private static void whatOfAMan() {
        DUE.says("Of a MAN: KIND (what = 0) .. how he should face (4). BAD");
        HayFootStraw x = Due.laid("m3,2,0,10;");
        int[] want = {BAD, 3, 2, 0, 10, 2, BAD};
        for (int what = -1; what <= 5; what++) is("man 0 " + what, x.man(0, what), want[what + 1]);
        for (int far : FAR) is("man 0 " + far, x.man(0, far), BAD);
    }

    private static void wordsThereAre() {
        DUE.says("WORDS are LEFT (0), RIGHT (1), ABOUT (2); BAD");
        HayFootStraw x = Due.laid("m0,0,0,0;");
        is("word -1", x.word(-1), BAD);
        is("word 3", x.word(3), BAD);
        for (int far : FAR) is("word " + far, x.word(far), BAD);
        is("none was said", x.count(1), 0);
        for (int w = 0; w < 3; w++) is("word " + w, x.word(w), 0);
        is("three were said", x.count(1), 3);
    }

    private static void facingsGoRound() {
        DUE.says("FACINGS are 0, 1, 2, 3, and 0 again, round to the right; to turn by 3, 1, 2");
        for (int f = 0; f < 4; f++) {
            for (int w = 0; w < 3; w++) {
                HayFootStraw x = Due.laid("m0," + f + ",0,0;m1," + f + ",0,0;");
                x.word(w);
                facing(x, TOLD[w][f], TOLD[w][f]);
                HayFootStraw late = Due.laid("m3," + f + ",0,0;");
                late.word(w);
                facing(late, f);
                late.word(LEFT);
                facing(late, TOLD[w][f]);
            }
            HayFootStraw x = Due.laid("m0," + f + ",0,0;");
            x.shout(0);
            facing(x, TOLD[ABOUT][f]);
            x.shout(0);
            facing(x, f);
        }
    }

    private static void whoErrsGoesRound() {
        DUE.says("A MAN who errs turns LEFT by RIGHT, RIGHT by LEFT");
        for (int f = 0; f < 4; f++) {
            for (int w = 0; w < 3; w++) {
                HayFootStraw x = Due.laid("m1," + f + ",0,10;m2," + f + ",0,0;");
                x.word(w);
                facing(x, ASTRAY[w][f], ASTRAY[w][f]);
            }
        }
    }

    private static void dueGoesRound() {
        DUE.says("DUE is how a MAN would face who is SURE, by all WORDS (nobody SHOUTED at)");
        for (int kind = 0; kind < 4; kind++) {
            HayFootStraw x = Due.laid("m" + kind + ",3,0,10;");
            int[] words = {RIGHT, RIGHT, RIGHT, RIGHT, RIGHT, LEFT, LEFT, LEFT, ABOUT, ABOUT};
            int[] due = {0, 1, 2, 3, 0, 3, 2, 1, 3, 1};
            is("due at first", x.man(0, 4), 3);
            for (int k = 0; k < words.length; k++) {
                x.word(words[k]);
                x.shout(0);
                is("due behind " + (k + 1) + " words", x.man(0, 4), due[k]);
            }
        }
    }

    private static void nobodyErrsByAbout() {
        DUE.says("nobody errs by ABOUT");
        HayFootStraw x = Due.laid("m1,0,0,10;m1,1,0,9;m2,2,2,10;m2,3,0,10;");
        is("ABOUT", x.word(ABOUT), 0);
        is("who erred", x.who(2), 0);
        x.eyes(1);
        is("ABOUT, EYES shut", x.word(ABOUT), 0);
        is("who erred, EYES shut", x.who(2), 0);
        is("LATE has nothing ahead", Due.laid("m3,0,0,0;").word(ABOUT), 1);
    }

    private static void drawLessThanP() {
        DUE.says("UNSURE ones err if DRAW is less than P");
        // By these seeds man 0 draws 0, 1, .. 9 at the first word.
        int[] seeds = {16, 23, 7, 3, 54, 15, 4, 9, 13, 8};
        for (int draw = 0; draw < 10; draw++) {
            for (int p = 0; p <= 10; p++) {
                HayFootStraw x = Due.laid("m1,0,0," + p + ";z" + seeds[draw] + ";");
                is("draw " + draw + ", P " + p, x.word(LEFT), draw < p ? 1 : 0);
            }
        }
    }

    private static void drawOfEachMan() {
        DUE.says("x 7919 S, 6151 (the number of the WORD), 3571 (that of the MAN) and 1 together");
        int[] draws = {0, 3, 8, 5, 3, 3, 5, 8};
        StringBuilder just = new StringBuilder();
        StringBuilder more = new StringBuilder();
        for (int draw : draws) {
            just.append("m1,0,0,").append(draw).append(';');
            more.append("m1,0,0,").append(draw + 1).append(';');
        }
        is("nobody errs", Due.laid(just.toString()).word(RIGHT), 0);
        is("all err", Due.laid(more.toString()).word(RIGHT), 8);
        HayFootStraw x = Due.laid(more.toString());
        is("nobody errs by ABOUT", x.word(ABOUT), 0);
    }

    private static void drawOfEachWord() {
        DUE.says("At a WORD (number 0 first, 1, ..)");
        int[] draws = {0, 5, 7, 4, 8, 7, 2, 3, 0, 3, 1, 6, 6, 3, 5, 3, 7, 7, 3, 4};
        for (int p = 0; p <= 10; p++) {
            HayFootStraw x = Due.laid("m1,0,0," + p + ";");
            int wrongs = 0;
            for (int n = 0; n < draws.length; n++) {
                // Words that are refused, shouts, eyes and looks have no number.
                x.word(3);
                x.eyes(1);
                x.look(0, 0);
                x.shout(0);
                x.shout(0);
                if (draws[n] < p) wrongs++;
                is("word " + n + ", P " + p, x.word(LEFT), wrongs % 2);
            }
        }
    }

    private static void sureAndLateNeverDraw() {
        DUE.says("SURE ones as the WORD says; LATE ones turn as the WORD ahead said, whatever P is");
        HayFootStraw x = Due.laid("m0,0,0,10;m3,0,0,10;m2,0,0,10;m2,0,1,10;");
        x.word(LEFT);
        facing(x, 3, 0, 3, 0);
        x.word(LEFT);
        facing(x, 2, 3, 2, 3);
        x.eyes(1);
        x.word(RIGHT);
        facing(x, 3, 2, 1, 2);
    }

    private static void lateAtTheFirstWord() {
        DUE.says("LATE ones turn as the WORD ahead said (nothing at the first one)");
        for (int first = 0; first < 3; first++) {
            for (int second = 0; second < 3; second++) {
                HayFootStraw x = Due.laid("m3,1,0,0;");
                is("the first", x.word(first), 1);
                facing(x, 1);
                x.word(second);
                facing(x, TOLD[first][1]);
                x.word(LEFT);
                facing(x, TOLD[second][TOLD[first][1]]);
                x.undo();
                x.undo();
                x.undo();
                x.word(second);
                facing(x, 1);
            }
        }
        HayFootStraw kept = Due.laid("m3,1,0,0;");
        kept.keep();
        kept.word(LEFT);
        kept.word(LEFT);
        kept.back();
        kept.word(RIGHT);
        facing(kept, 1);
        kept.lay();
        kept.word(ABOUT);
        facing(kept, 1);
    }

    private static void lateBehindShouts() {
        DUE.says("WORDS that a MAN was shouted do not count");
        HayFootStraw x = Due.laid("m3,0,0,0;m0,0,0,0;");
        x.shout(0);
        x.shout(1);
        facing(x, 2, 2);
        x.word(RIGHT);
        facing(x, 2, 3);
        x.shout(0);
        x.shout(1);
        x.word(LEFT);
        facing(x, 1, 0);
        is("due", x.man(0, 4), 0);
    }

    private static void lookingOnAndOn() {
        DUE.says("LOOKING ones turn as the MAN at whom they look does at this WORD (who may look at another one, and so on)");
        StringBuilder up = new StringBuilder();
        StringBuilder down = new StringBuilder("m1,0,0,10;");
        for (int i = 0; i < 7; i++) {
            up.append("m2,0,").append(i + 1).append(",0;");
            down.append("m2,0,").append(i).append(",0;");
        }
        is("seven look up at one who errs", Due.laid(up + "m1,0,0,10;").word(LEFT), 8);
        is("seven look up at one who does not", Due.laid(up + "m1,0,0,0;").word(LEFT), 0);
        is("seven look down at one who errs", Due.laid(down.toString()).word(LEFT), 8);
        is("seven look up at a LATE one", Due.laid(up + "m3,0,0,0;").word(LEFT), 8);
        HayFootStraw x = Due.laid("m2,0,1,0;m3,0,0,0;");
        x.word(LEFT);
        x.word(RIGHT);
        facing(x, 3, 3);
    }

    private static void comingRoundToHimself() {
        DUE.says("those who come round so to themselves turn as UNSURE ones: one who looks at himself");
        // The draws are 0 and 3, each by his own number and P.
        is("P 0 and 3", Due.laid("m2,0,0,0;m2,0,1,3;").word(LEFT), 0);
        HayFootStraw x = Due.laid("m2,0,0,1;m2,0,1,4;");
        is("P 1 and 4", x.word(LEFT), 2);
        is("they erred", x.who(2), 3);
    }

    private static void comingRoundInARing() {
        DUE.says("those who come round so to themselves turn as UNSURE ones: rings");
        is("two, P 10 and 0", Due.laid("m2,0,1,10;m2,0,0,0;").word(LEFT), 1);
        StringBuilder ring = new StringBuilder();
        int[] draws = {0, 3, 8, 5, 3, 3, 5, 8};
        for (int i = 0; i < 8; i++) {
            ring.append("m2,0,").append((i + 1) % 8).append(',').append(draws[i] + i % 2).append(';');
        }
        HayFootStraw x = Due.laid(ring.toString());
        is("eight, each second one errs", x.word(RIGHT), 4);
        is("who erred", x.who(2), 0b10101010);
        for (int i = 0; i < 8; i++) is("follows " + i, x.follows(i), -4);
        x.look(7, 7);
        for (int i = 0; i < 8; i++) is("follows with 7 who looks at himself, " + i, x.follows(i), -4);
    }

    private static void comingRoundToOthers() {
        DUE.says("those who come round .. to others that do turn as UNSURE ones");
        HayFootStraw x = Due.laid("m2,0,1,10;m2,0,2,0;m2,0,3,10;m2,0,2,0;m2,0,0,0;");
        // 2 and 3 look at one another; 1 at 2, 0 at 1, 4 at 0.
        is("LEFT", x.word(LEFT), 2);
        facing(x, 1, 3, 1, 3, 3);
        HayFootStraw out = Due.laid("m2,0,1,10;m2,0,2,10;m1,0,1,0;");
        // An UNSURE one does not look, though it is told at whom: there is no ring.
        is("no ring by one who is not LOOKING", out.word(LEFT), 0);
    }

    private static void eyesShut() {
        DUE.says("and all, EYES shut, turn as UNSURE ones");
        String text = "m0,0,0,10;m2,0,0,10;m2,0,1,0;";
        HayFootStraw open = Due.laid(text + "e0;");
        is("open", open.word(LEFT), 0);
        HayFootStraw shut = Due.laid(text + "e1;");
        is("shut", shut.word(LEFT), 1);
        facing(shut, 3, 1, 3);
        shut.eyes(0);
        is("opened", shut.word(LEFT), 1);
        facing(shut, 2, 0, 2);
    }

    private static void wrongFromNoneToAll() {
        DUE.says("A WORD: how many are WRONG");
        for (int men = 1; men <= 8; men++) {
            for (int wrong = 0; wrong <= men; wrong++) {
                String text = "m1,0,0,10;".repeat(wrong) + "m1,0,0,0;".repeat(men - wrong);
                HayFootStraw x = Due.laid(text);
                is(wrong + " of " + men, x.word(RIGHT), wrong);
                is(wrong + " of " + men + " as bits", x.who(0), (1 << wrong) - 1);
                is(wrong + " of " + men + ", ABOUT", x.word(ABOUT), wrong);
                is(wrong + " of " + men + ", again", x.word(RIGHT), 0);
            }
        }
    }

    private static void shoutAtEach() {
        DUE.says("A MAN is SHOUTED at: how many go ABOUT. BAD");
        for (int men = 1; men <= 8; men++) {
            HayFootStraw x = Due.laid("m0,1,0,0;".repeat(men));
            is("the first of " + men, x.shout(0), 1);
            is("the last of " + men, x.shout(men - 1), 1);
            is("one below", x.shout(-1), BAD);
            is("one beyond " + men, x.shout(men), BAD);
            for (int far : FAR) is("shout " + far, x.shout(far), BAD);
            is("the last of " + men + " faces", x.man(men - 1, 1), men == 1 ? 1 : 3);
        }
    }

    private static void shoutFromOneToAll() {
        DUE.says("so do at once, EYES open, all LOOKING ones who look at him, at one who looks at him, and so on");
        HayFootStraw x = Due.laid("m2,0,1,0;m2,0,2,0;m2,0,3,0;m2,0,4,0;m2,0,5,0;m2,0,6,0;m2,0,7,0;m3,0,7,0;");
        for (int i = 0; i < 8; i++) {
            is("shout at " + i, x.shout(i), i + 1);
            x.undo();
        }
        x.shout(3);
        facing(x, 2, 2, 2, 2, 0, 0, 0, 0);
        is("who went is WRONG", x.who(0), 15);
        is("nobody erred", x.who(2), 0);
        HayFootStraw all = Due.laid("m1,0,0,10;" + "m2,3,0,10;".repeat(7));
        is("seven look at one", all.shout(0), 8);
        facing(all, 2, 1, 1, 1, 1, 1, 1, 1);
        HayFootStraw none = Due.laid("m0,0,0,0;m0,0,0,0;m1,0,0,0;m3,0,0,0;");
        is("none of them is LOOKING", none.shout(0), 1);
        HayFootStraw past = Due.laid("m0,0,0,0;m1,0,0,0;m2,0,1,0;");
        is("it goes on by LOOKING ones alone", past.shout(0), 1);
    }

    private static void shoutAndThoseWhoComeRound() {
        DUE.says("but those who come round");
        HayFootStraw x = Due.laid("m2,0,1,0;m2,0,0,0;m2,0,0,0;m2,0,2,0;m2,0,4,0;m2,0,4,0;m0,0,0,0;m2,0,6,0;");
        for (int i = 0; i < 6; i++) {
            is("shout at " + i, x.shout(i), 1);
            is("he goes, " + i, x.man(i, 1), 2);
            is("he alone, " + i, x.most(1), 7);
            x.undo();
        }
        is("who does not come round", x.shout(6), 2);
        x.look(7, 5);
        is("behind look", x.shout(6), 1);
    }

    private static void shoutWithEyesShut() {
        DUE.says("so do at once, EYES open, ..");
        HayFootStraw x = Due.laid("m0,0,0,0;m2,0,0,0;m2,0,1,0;e1;");
        is("shut", x.shout(0), 1);
        facing(x, 2, 0, 0);
        x.eyes(0);
        is("opened", x.shout(0), 3);
        facing(x, 0, 2, 2);
    }

    private static void eyesOpenOrShut() {
        DUE.says("EYES are open (0), shut (1): how they were. BAD");
        HayFootStraw x = Due.laid("m0,0,0,0;");
        int[] shut = {0, 1, 1, 0, 0};
        int[] were = {0, 0, 1, 1, 0};
        for (int k = 0; k < shut.length; k++) {
            is("eyes " + shut[k], x.eyes(shut[k]), were[k]);
            is("eyes 2", x.eyes(2), BAD);
            is("eyes -1", x.eyes(-1), BAD);
            is("how they are", x.count(2), shut[k]);
        }
        for (int far : FAR) is("eyes " + far, x.eyes(far), BAD);
        is("at first shut", Due.laid("m0,0,0,0;e1;").eyes(1), 1);
    }

    private static void lookAtEach() {
        DUE.says("A MAN is made to look at one: at whom he did. BAD");
        for (int men = 1; men <= 8; men++) {
            HayFootStraw x = Due.laid("m2,0,0,0;".repeat(men));
            int last = men - 1;
            is("the last at himself", x.look(last, last), 0);
            is("the last at the first", x.look(last, 0), last);
            is("the first at the last", x.look(0, last), 0);
            is("the first at himself", x.look(0, 0), last);
            is("one beyond", x.look(men, 0), BAD);
            is("at one beyond", x.look(0, men), BAD);
            is("both beyond", x.look(men, men), BAD);
            is("one below", x.look(-1, 0), BAD);
            is("at one below", x.look(0, -1), BAD);
            for (int far : FAR) {
                is("look " + far, x.look(far, 0), BAD);
                is("look at " + far, x.look(0, far), BAD);
            }
            is("four can be undone", x.count(3), 4);
        }
        for (int kind = 0; kind < 4; kind++) {
            is("any kind looks", Due.laid("m" + kind + ",0,1,0;m0,0,0,0;").look(0, 0), 1);
        }
    }

    private static void theLastEightUndone() {
        DUE.says("UNDONE is the latest of these, or WORD (the last 8 can be): how many more can be. NO");
        for (int done = 0; done <= 20; done++) {
            HayFootStraw x = Due.laid("m0,0,0,0;");
            for (int k = 0; k < done; k++) x.word(RIGHT);
            int can = Math.min(done, 8);
            is("can be, of " + done, x.count(3), can);
            for (int more = can - 1; more >= 0; more--) {
                is("undo, of " + done, x.undo(), more);
                is("can be still", x.count(3), more);
                is("words", x.count(1), done - can + more);
                is("facing", x.man(0, 1), (done - can + more) % 4);
            }
            is("no more, of " + done, x.undo(), NO);
            is("and no more", x.undo(), NO);
            is("the words ahead stay", x.count(1), done - can);
            is("facing stays", x.man(0, 1), (done - can) % 4);
            is("due stays", x.man(0, 4), (done - can) % 4);
        }
    }

    private static void doOne(HayFootStraw x, int kind) {
        switch (kind) {
            case 0 -> x.word(ABOUT);
            case 1 -> x.shout(1);
            case 2 -> x.eyes(1);
            default -> x.look(0, 1);
        }
    }

    /** Nine of one kind, the first of which can't be undone, and one of each kind among eight. */
    private static void eachKindIsUndone() {
        DUE.says("EYES are shut, or opened. A MAN is made to look at another one (or himself). UNDONE is the latest of these");
        for (int kind = 0; kind < 4; kind++) {
            HayFootStraw x = Due.laid("m2,0,0,0;m0,1,0,0;");
            for (int k = 1; k <= 9; k++) {
                doOne(x, kind);
                is("can be, kind " + kind, x.count(3), Math.min(k, 8));
            }
            for (int more = 7; more >= 0; more--) is("undo, kind " + kind, x.undo(), more);
            is("no more, kind " + kind, x.undo(), NO);
            is("words", x.count(1), kind == 0 ? 1 : 0);
            is("facing of 1", x.man(1, 1), kind < 2 ? 3 : 1);
            is("eyes", x.count(2), kind == 2 ? 1 : 0);
            is("looks", x.man(0, 2), kind == 3 ? 1 : 0);
        }
        for (int kind = 0; kind < 4; kind++) {
            HayFootStraw x = Due.laid("m2,0,0,0;m0,1,0,0;");
            doOne(x, kind);
            is("undo one, kind " + kind, x.undo(), 0);
            facing(x, 0, 1);
            is("words", x.count(1), 0);
            is("eyes", x.count(2), 0);
            is("looks", x.man(0, 2), 0);
            is("due", x.man(1, 4), 1);
            for (int what = 0; what < 3; what++) is("who " + what, x.who(what), 0);
        }
    }

    private static void undoneAndDoneAgain() {
        DUE.says("UNDONE is the latest (the last 8 can be), of those that were not undone");
        HayFootStraw x = Due.laid("m0,0,0,0;m3,0,0,0;");
        for (int k = 0; k < 8; k++) x.word(RIGHT);
        for (int k = 0; k < 5; k++) x.undo();
        is("three can be", x.count(3), 3);
        for (int k = 0; k < 5; k++) x.word(LEFT);
        is("eight can be", x.count(3), 8);
        is("words", x.count(1), 8);
        x.word(ABOUT);
        is("still eight", x.count(3), 8);
        int[] dueThen = {1, 2, 3, 2, 1, 0, 3, 2};
        for (int more = 7; more >= 0; more--) {
            is("undo", x.undo(), more);
            is("due", x.man(0, 4), dueThen[more]);
        }
        is("no more", x.undo(), NO);
        is("one word stays", x.count(1), 1);
        x.word(LEFT);
        is("LATE by the word that stays", x.man(1, 1), 1);
        is("one can be", x.count(3), 1);
    }

    private static void whoByBits() {
        DUE.says("WRONG (what = 0), TWICE (1), ERRED (2), as bits. BAD");
        HayFootStraw x = Due.laid("m0,0,0,0;".repeat(8));
        for (int i = 0; i < 8; i++) {
            x.shout(i);
            is("WRONG " + i, x.who(0), (2 << i) - 1);
        }
        is("all WRONG", x.who(0), 255);
        is("none TWICE", x.who(1), 0);
        for (int i = 0; i < 8; i++) {
            x.shout(i);
            is("TWICE " + i, x.who(1), (2 << i) - 1);
        }
        is("none WRONG", x.who(0), 0);
        is("none ERRED", x.who(2), 0);
        is("who -1", x.who(-1), BAD);
        is("who 3", x.who(3), BAD);
        for (int far : FAR) is("who " + far, x.who(far), BAD);
    }

    private static void twiceByTwoWrongs() {
        DUE.says("TWICE are those who face as is DUE, though at any time they turned otherwise than a WORD said, or went ABOUT by a SHOUT");
        HayFootStraw x = Due.laid("m1,0,0,10;m0,0,0,0;");
        x.word(LEFT);
        is("wrong once", x.who(1), 0);
        x.shout(0);
        is("by an error and a shout", x.who(1), 1);
        x.undo();
        x.word(RIGHT);
        is("by two errors", x.who(1), 1);
        x.word(ABOUT);
        is("still", x.who(1), 1);
        x.undo();
        x.undo();
        x.undo();
        is("undone", x.who(1), 0);
        x.shout(1);
        x.word(ABOUT);
        is("ABOUT and a shout is WRONG", x.who(0), 2);
        is("WRONG is not TWICE", x.who(1), 0);
        HayFootStraw late = Due.laid("m3,0,0,0;");
        late.word(LEFT);
        late.word(RIGHT);
        late.word(RIGHT);
        late.word(LEFT);
        // He went LEFT, RIGHT, RIGHT; told was LEFT, RIGHT, RIGHT, LEFT.
        is("LATE is WRONG", late.who(0), 1);
        HayFootStraw back = Due.laid("m3,2,0,0;");
        back.word(LEFT);
        back.shout(0);
        back.word(ABOUT);
        // He went ABOUT and LEFT from 2; told was LEFT and ABOUT.
        is("LATE and a shout", back.who(1), 1);
    }

    private static void erredAtAnyTime() {
        DUE.says("ERRED: MEN (bits) who have turned otherwise than a WORD said at any time (LATE ones, too)");
        HayFootStraw x = Due.laid("m0,0,0,0;m1,0,0,10;m2,0,1,0;m3,0,0,0;m2,0,3,0;m2,0,0,0;");
        is("nobody at first", x.who(2), 0);
        x.word(ABOUT);
        is("LATE and who looks at him", x.who(2), 0b011000);
        x.word(LEFT);
        is("who errs, and who looks at him, too", x.who(2), 0b011110);
        x.word(ABOUT);
        is("still", x.who(2), 0b011110);
        HayFootStraw late = Due.laid("m3,0,0,0;");
        late.shout(0);
        is("not by a shout", late.who(2), 0);
        late.word(LEFT);
        late.undo();
        is("not by a word that is undone", late.who(2), 0);
    }

    /** As many words as an object's calls are promised for, held against the model. */
    private static void manyWords() {
        DUE.says("An object is used for at most 512 calls after it has been made");
        HayFootStraw x = new HayFootStraw();
        Model m = new Model();
        for (int k = 0; k < 510; k++) {
            int w = k * k % 7 % 3;
            is("word " + k, x.word(w), m.word(w));
        }
        is("words", x.count(1), 510);
        is("can be undone", x.count(3), 8);
    }

    /** More calls than are promised for, as no fewer can come to this. */
    private static void nineHundredNinetyNineWords() {
        DUE.says("NO: 999 were said");
        HayFootStraw x = Due.laid("m0,0,0,0;m3,0,0,0;");
        for (int k = 0; k < 998; k++) x.word(RIGHT);
        is("words", x.count(1), 998);
        is("the 999th", x.word(LEFT), 1);
        for (int w = 0; w < 3; w++) is("one more, " + w, x.word(w), NO);
        is("one more that is none", x.word(3), BAD);
        is("words still", x.count(1), 999);
        is("facing", x.man(0, 1), 1);
        is("LATE", x.man(1, 1), 2);
        is("a shout is no word", x.shout(0), 1);
        is("a drill is foreseen all the same", x.drill(0, 60, 0), 2);
        x.undo();
        is("can be undone", x.undo(), 6);
        is("words behind undo", x.count(1), 998);
        is("the 999th again", x.word(LEFT), 1);
        is("and no more", x.word(LEFT), NO);
    }
}
