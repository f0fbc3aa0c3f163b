/** What the document says of how they stand and of what is foreseen, sentence by sentence. */
public final class ForesightBoundsTest {

    private static final int BAD = -1, NONE = -4;
    private static final int LEFT = 0, RIGHT = 1, ABOUT = 2;
    private static final int[] BY = {3, 1, 2};
    private static final int[] FAR = {Integer.MIN_VALUE, -256, -3, -2, 256, 65536, Integer.MAX_VALUE};
    private static final String EIGHT_SURE = "m0,0,0,0;".repeat(8);

    private static final Due DUE = new Due();

    private ForesightBoundsTest() {}

    public static void main(String[] args) {
        menThereAre();
        wordsThereAre();
        partsThereAre();
        followsHimself();
        followsInTheEnd();
        followsNobody();
        runsFromNoneToSeven();
        runsWithEyesShut();
        mostOfSeveral();
        groupsFromOneToEight();
        foreseenByFive();
        planOfNoWord();
        planOfOneWord();
        planOfTwoWords();
        planThereIsNone();
        planOfOtherNumbers();
        turnGoesRound();
        turnAtTheFirstWord();
        alikeByEachP();
        alikeOfEachFacing();
        alikeOfMany();
        rightByEachP();
        rightBehindWrong();
        whichOfFacings();
        safeIsTheFirstOther();
        safeIsNone();
        numbersFromOneToFive();
        drillWordByWord();
        drillFromNowOn();
        drillOfOtherNumbers();
        DUE.end();
    }

    private static void is(String call, int got, int want) {
        DUE.is(call, got, want);
    }

    private static void menThereAre() {
        DUE.says("BAD: a number is none that is told (MEN: such as there are)");
        for (int men = 1; men <= 8; men++) {
            HayFootStraw x = Due.laid("m0,0,0,0;".repeat(men));
            int last = men - 1;
            is("follows, the last", x.follows(last), last);
            is("runs, the last", x.runs(last), 0);
            is("turn, the last", x.turn(last, LEFT), 3);
            is("right, the last", x.right(last, LEFT, 0), 1);
            is("which, the last", x.which(last, 3), 1);
            is("safe, the last", x.safe(last), men == 1 ? NONE : 0);
            badMan(x, men);
            badMan(x, -1);
            for (int far : FAR) badMan(x, far);
        }
    }

    private static void badMan(HayFootStraw x, int i) {
        is("follows " + i, x.follows(i), BAD);
        is("runs " + i, x.runs(i), BAD);
        is("turn " + i, x.turn(i, LEFT), BAD);
        is("right " + i, x.right(i, LEFT, 0), BAD);
        is("which " + i, x.which(i, 3), BAD);
        is("safe " + i, x.safe(i), BAD);
    }

    private static void wordsThereAre() {
        DUE.says("BAD: a number is none that is told (WORDS: such as there are)");
        HayFootStraw x = Due.laid("m0,0,0,0;");
        for (int w = 0; w < 3; w++) {
            is("turn by " + w, x.turn(0, w), BY[w]);
            is("alike by " + w, x.alike(w, 0), 1);
            is("right by " + w, x.right(0, w, 0), 1);
        }
        badWord(x, -1);
        badWord(x, 3);
        for (int far : FAR) badWord(x, far);
    }

    private static void badWord(HayFootStraw x, int w) {
        is("turn by " + w, x.turn(0, w), BAD);
        is("alike by " + w, x.alike(w, 0), BAD);
        is("right by " + w, x.right(0, w, 0), BAD);
    }

    private static void partsThereAre() {
        DUE.says("above (part = 0), below (1). BAD; what = 0, 1. BAD");
        HayFootStraw x = Due.laid("m1,0,0,3;m0,0,0,0;");
        is("alike above", x.alike(LEFT, 0), 7);
        is("alike below", x.alike(LEFT, 1), 10);
        is("right above", x.right(0, LEFT, 0), 7);
        is("right below", x.right(0, LEFT, 1), 10);
        badPart(x, -1);
        badPart(x, 2);
        for (int far : FAR) badPart(x, far);
    }

    private static void badPart(HayFootStraw x, int part) {
        is("alike, part " + part, x.alike(LEFT, part), BAD);
        is("right, part " + part, x.right(0, LEFT, part), BAD);
        is("most " + part, x.most(part), BAD);
        is("groups " + part, x.groups(part), BAD);
        is("drill, what " + part, x.drill(0, 1, part), BAD);
    }

    private static void followsHimself() {
        DUE.says("FOLLOWS: himself, if he is not LOOKING (or EYES are shut)");
        HayFootStraw x = Due.laid("m0,0,3,0;m1,0,3,0;m3,0,3,0;m2,0,0,0;m2,0,4,0;");
        for (int i = 0; i < 3; i++) is("not LOOKING, " + i, x.follows(i), i);
        is("LOOKING", x.follows(3), 0);
        is("LOOKING at himself", x.follows(4), NONE);
        x.eyes(1);
        for (int i = 0; i < 5; i++) is("EYES shut, " + i, x.follows(i), i);
        x.undo();
        is("EYES open again", x.follows(3), 0);
    }

    private static void followsInTheEnd() {
        DUE.says("FOLLOWS: else whom the one follows at whom he looks");
        HayFootStraw up = Due.laid("m2,0,1,0;m2,0,2,0;m2,0,3,0;m2,0,4,0;m2,0,5,0;m2,0,6,0;m2,0,7,0;m1,0,0,0;");
        HayFootStraw down = Due.laid("m3,0,7,0;m2,0,0,0;m2,0,1,0;m2,0,2,0;m2,0,3,0;m2,0,4,0;m2,0,5,0;m2,0,6,0;");
        for (int i = 0; i < 8; i++) {
            is("up, " + i, up.follows(i), 7);
            is("down, " + i, down.follows(i), 0);
        }
    }

    private static void followsNobody() {
        DUE.says("FOLLOWS: none, if it comes round");
        HayFootStraw x = Due.laid("m2,0,0,0;m2,0,0,0;m2,0,3,0;m2,0,2,0;m2,0,3,0;m2,0,4,0;m0,0,6,0;m2,0,6,0;");
        int[] want = {NONE, NONE, NONE, NONE, NONE, NONE, 6, 6};
        for (int i = 0; i < 8; i++) is("follows " + i, x.follows(i), want[i]);
        x.look(2, 7);
        int[] behind = {NONE, NONE, 6, 6, 6, 6, 6, 6};
        for (int i = 0; i < 8; i++) is("follows behind look, " + i, x.follows(i), behind[i]);
    }

    private static void runsFromNoneToSeven() {
        DUE.says("RUNS: how many others follow a MAN in the end");
        for (int lookers = 0; lookers < 8; lookers++) {
            HayFootStraw x = Due.laid("m2,0,7,0;".repeat(lookers) + "m0,0,0,0;".repeat(8 - lookers));
            is("runs, " + lookers, x.runs(7), lookers);
        }
        HayFootStraw chain = Due.laid("m3,0,0,0;m2,0,0,0;m2,0,1,0;m2,0,2,0;m2,0,3,0;m2,0,4,0;m2,0,5,0;m2,0,6,0;");
        is("of a chain's end", chain.runs(0), 7);
        for (int i = 1; i < 8; i++) is("of one amid, " + i, chain.runs(i), 0);
        chain.look(1, 7);
        for (int i = 0; i < 8; i++) is("it comes round, " + i, chain.runs(i), 0);
        is("one alone", Due.laid("m2,0,0,0;").runs(0), 0);
    }

    private static void runsWithEyesShut() {
        DUE.says("RUNS: .. EYES open");
        HayFootStraw x = Due.laid("m0,0,0,0;m2,0,0,0;m2,0,1,0;e1;");
        is("though they are shut", x.runs(0), 2);
        x.eyes(0);
        is("open", x.runs(0), 2);
    }

    private static void mostOfSeveral() {
        DUE.says("MOST: the FACING of most MEN, of several the lowest; how many");
        for (int f = 0; f < 4; f++) {
            for (int men = 1; men <= 8; men++) {
                HayFootStraw x = Due.laid(("m0," + f + ",0,0;").repeat(men));
                is("all face " + f, x.most(0), f);
                is("how many face " + f, x.most(1), men);
            }
        }
        for (int low = 0; low < 4; low++) {
            for (int high = low + 1; high < 4; high++) {
                String a = "m0," + low + ",0,0;", b = "m0," + high + ",0,0;";
                is("as many", Due.laid(b + a).most(0), low);
                is("as many, the other way", Due.laid(a + b).most(0), low);
                is("one more", Due.laid(b + a + b).most(0), high);
                is("one more, how many", Due.laid(b + a + b).most(1), 2);
            }
        }
        HayFootStraw two = Due.laid("m0,3,0,0;m0,2,0,0;m0,1,0,0;m0,0,0,0;".repeat(2));
        is("two each", two.most(0), 0);
        is("two each, how many", two.most(1), 2);
    }

    private static void groupsFromOneToEight() {
        DUE.says("GROUPS: how many rows of next ones who face alike there are; the longest of them");
        for (int men = 1; men <= 8; men++) {
            HayFootStraw alike = Due.laid("m0,2,0,0;".repeat(men));
            is("all alike", alike.groups(0), 1);
            is("all alike, the longest", alike.groups(1), men);
            HayFootStraw other = Due.laid("m0,3,0,0;m0,0,0,0;".repeat(4).substring(0, 9 * men));
            is("none alike", other.groups(0), men);
            is("none alike, the longest", other.groups(1), 1);
        }
        HayFootStraw first = Due.laid("m0,0,0,0;m0,0,0,0;m0,0,0,0;m0,1,0,0;m0,1,0,0;m0,0,0,0;");
        is("the first is the longest", first.groups(1), 3);
        is("the last faces as the first", first.groups(0), 3);
        HayFootStraw last = Due.laid("m0,0,0,0;m0,1,0,0;m0,1,0,0;m0,0,0,0;m0,0,0,0;m0,0,0,0;");
        is("the last is the longest", last.groups(1), 3);
        HayFootStraw amid = Due.laid("m0,0,0,0;m0,1,0,0;m0,1,0,0;m0,1,0,0;m0,0,0,0;m0,0,0,0;");
        is("one amid is the longest", amid.groups(1), 3);
    }

    private static void foreseenByFive() {
        DUE.says("FORESEEN is that UNSURE ones (and who turns as these) err just if P is 5 or more");
        for (int p = 0; p <= 10; p++) {
            int left = p >= 5 ? 1 : 3;
            // UNSURE, one who looks at him, one who looks at himself, one who looks at that one.
            HayFootStraw x = Due.laid("m1,0,0," + p + ";m2,0,0," + (10 - p) + ";m2,0,2," + p + ";m2,0,2," + p + ";");
            for (int i = 0; i < 4; i++) {
                is("turn LEFT of " + i + ", P " + p, x.turn(i, LEFT), left);
                is("turn RIGHT of " + i + ", P " + p, x.turn(i, RIGHT), 4 - left);
                is("turn ABOUT of " + i + ", P " + p, x.turn(i, ABOUT), 2);
            }
            x.eyes(1);
            is("EYES shut, by his own P " + (10 - p), x.turn(1, LEFT), 10 - p >= 5 ? 1 : 3);
            HayFootStraw two = Due.laid("m0,2,0,0;m1,0,0," + p + ";");
            is("plan, P " + p, two.plan(-1), p >= 5 ? 1 : NONE);
            is("numbers, P " + p, two.numbers(1), p >= 5 ? 2 : 0);
            is("which, P " + p, two.which(1, 1), p >= 5 ? 1 : 2);
        }
        is("SURE ones do not err, P 10", Due.laid("m0,0,0,10;").turn(0, LEFT), 3);
        is("LATE ones do not err, P 10", Due.laid("m3,0,0,10;").turn(0, LEFT), 0);
    }

    private static void plan(HayFootStraw x, int... words) {
        is("plan(-1)", x.plan(-1), words.length);
        for (int k = 0; k <= 4; k++) is("plan(" + k + ")", x.plan(k), k < words.length ? words[k] : NONE);
        is("plan(5)", x.plan(5), BAD);
        is("plan(-2)", x.plan(-2), BAD);
    }

    private static void planOfNoWord() {
        DUE.says("PLAN: the fewest WORDS (0 to 5) by which all would face one way; NONE: it is no longer");
        plan(Due.laid("m0,0,0,0;"));
        plan(Due.laid(EIGHT_SURE));
        plan(Due.laid("m0,3,0,0;m1,3,0,10;m2,3,2,5;m3,3,0,0;"));
        plan(new HayFootStraw());
    }

    private static void planOfOneWord() {
        DUE.says("PLAN: of several rows the first (LEFT ahead of RIGHT ahead of ABOUT)");
        plan(Due.laid("m0,0,0,0;m1,2,0,10;"), LEFT);
        plan(Due.laid("m0,0,0,0;m3,3,0,0;"), LEFT);
        plan(Due.laid("m0,0,0,0;m3,1,0,0;"), RIGHT);
        plan(Due.laid("m0,0,0,0;m3,2,0,0;"), ABOUT);
        HayFootStraw x = Due.laid("m0,0,0,0;m3,2,0,0;");
        x.word(LEFT);
        // They face 3 and 2, and LATE goes LEFT next: to 1, where ABOUT brings the other one.
        plan(x, ABOUT);
    }

    private static void planOfTwoWords() {
        DUE.says("PLAN: of several rows the first, by the first WORD, then the next one");
        plan(Due.laid("m0,0,0,0;m3,3,0,0;m1,0,0,10;"), LEFT, LEFT);
        plan(Due.laid("m0,0,0,0;m3,1,0,0;m1,0,0,10;"), LEFT, RIGHT);
        plan(Due.laid("m0,0,0,0;m3,2,0,0;m1,2,0,10;"), LEFT, ABOUT);
    }

    private static void planThereIsNone() {
        DUE.says("PLAN: .. none");
        String[] never = {"m0,0,0,0;m0,1,0,0;", "m0,0,0,0;m0,2,0,0;", "m0,0,0,0;m1,2,0,4;", "m0,0,0,0;m1,1,0,10;",
            "m0,0,0,0;m2,2,0,10;", "m3,0,0,0;m3,1,0,0;"};
        for (String text : never) {
            HayFootStraw x = Due.laid(text);
            for (int k = -1; k <= 4; k++) is("plan " + k + " of " + text, x.plan(k), NONE);
            for (int n = 1; n <= 5; n++) is("numbers " + n + " of " + text, x.numbers(n), 0);
            DUE.says("BAD: k beyond 4, too");
            is("plan 5 of " + text, x.plan(5), BAD);
            is("plan -2 of " + text, x.plan(-2), BAD);
        }
    }

    private static void planOfOtherNumbers() {
        DUE.says("PLAN: how many (k = -1), the k-th (0 first). BAD: k beyond 4, too");
        HayFootStraw x = Due.laid("m0,0,0,0;m3,1,0,0;");
        for (int far : FAR) is("plan " + far, x.plan(far), BAD);
        is("plan -2", x.plan(-2), BAD);
        is("plan -1", x.plan(-1), 1);
        is("plan 0", x.plan(0), RIGHT);
        is("plan 1", x.plan(1), NONE);
        is("plan 4", x.plan(4), NONE);
        is("plan 5", x.plan(5), BAD);
        is("nothing was said", x.count(1), 0);
    }

    private static void turnGoesRound() {
        DUE.says("TURN: where a MAN would face behind a WORD, as FORESEEN; FACINGS are 0, 1, 2, 3, and 0 again");
        for (int f = 0; f < 4; f++) {
            HayFootStraw x = Due.laid("m0," + f + ",0,0;m1," + f + ",0,5;m3," + f + ",0,0;");
            for (int w = 0; w < 3; w++) {
                is("SURE", x.turn(0, w), (f + BY[w]) % 4);
                is("who errs", x.turn(1, w), (f + 4 - BY[w]) % 4);
            }
            for (int ahead = 0; ahead < 3; ahead++) {
                x.word(ahead);
                is("LATE", x.turn(2, LEFT), (f + BY[ahead]) % 4);
                x.undo();
            }
        }
    }

    private static void turnAtTheFirstWord() {
        DUE.says("LATE ones turn as the WORD ahead said (nothing at the first one), as FORESEEN");
        HayFootStraw x = Due.laid("m3,2,0,10;m2,1,0,10;");
        x.shout(0);
        for (int w = 0; w < 3; w++) {
            is("LATE", x.turn(0, w), 0);
            is("who looks at him", x.turn(1, w), 3);
        }
        is("which", x.which(0, 0), 7);
        is("right above", x.right(0, LEFT, 0), 0);
        // He should face 2 and ABOUT: 0, as he does by the shout.
        is("right by ABOUT", x.right(0, ABOUT, 0), 1);
    }

    /** In tenths, in lowest terms. */
    private static final int[][] LOWEST =
            {{0, 1}, {1, 10}, {1, 5}, {3, 10}, {2, 5}, {1, 2}, {3, 5}, {7, 10}, {4, 5}, {9, 10}, {1, 1}};

    private static void alikeByEachP() {
        DUE.says("ALL ALIKE behind a WORD: each UNSURE one erring by P of ten for himself. In lowest terms");
        for (int p = 0; p <= 10; p++) {
            HayFootStraw x = Due.laid("m0,0,0,0;m1,0,0," + p + ";");
            HayFootStraw opposite = Due.laid("m0,0,0,0;m1,2,0," + p + ";");
            HayFootStraw round = Due.laid("m0,0,0,0;m2,0,1," + p + ";");
            HayFootStraw shut = Due.laid("m0,0,0,0;m2,0,0," + p + ";e1;");
            for (int part = 0; part < 2; part++) {
                for (int w = 0; w < 2; w++) {
                    is("P " + p, x.alike(w, part), LOWEST[10 - p][part]);
                    is("opposite, P " + p, opposite.alike(w, part), LOWEST[p][part]);
                    is("comes round, P " + p, round.alike(w, part), LOWEST[10 - p][part]);
                    is("EYES shut, P " + p, shut.alike(w, part), LOWEST[10 - p][part]);
                }
                is("ABOUT, P " + p, x.alike(ABOUT, part), 1);
                is("ABOUT, opposite, P " + p, opposite.alike(ABOUT, part), part);
            }
        }
    }

    private static void alikeOfEachFacing() {
        DUE.says("ALL ALIKE: .. that all MEN face one way, whichever it is");
        for (int f = 0; f < 4; f++) {
            HayFootStraw sure = Due.laid(("m0," + f + ",0,0;").repeat(3));
            HayFootStraw errs = Due.laid(("m1," + f + ",0,3;").repeat(2));
            for (int w = 0; w < 3; w++) {
                is("SURE ones, above", sure.alike(w, 0), 1);
                is("SURE ones, below", sure.alike(w, 1), 1);
                // Both do not err, or both do: 49 and 9 of a hundred.
                is("UNSURE ones, above", errs.alike(w, 0), w == ABOUT ? 1 : 29);
                is("UNSURE ones, below", errs.alike(w, 1), w == ABOUT ? 1 : 50);
            }
        }
    }

    private static void alikeOfMany() {
        DUE.says("ALL ALIKE: how likely it is that all MEN face one way. In lowest terms");
        HayFootStraw nine = Due.laid("m0,0,0,0;" + "m1,0,0,1;".repeat(7));
        is("9 to the power of 7", nine.alike(LEFT, 0), 4782969);
        is("10 to the power of 7", nine.alike(LEFT, 1), 10000000);
        HayFootStraw one = Due.laid("m0,0,0,0;" + "m1,0,0,9;".repeat(7));
        is("1 to the power of 7", one.alike(LEFT, 0), 1);
        is("10 to the power of 7, too", one.alike(LEFT, 1), 10000000);
        HayFootStraw eight = Due.laid("m1,0,0,1;".repeat(8));
        // 9 to the power of 8, and 1, halved: none errs, or all do.
        is("above of eight", eight.alike(RIGHT, 0), (43046721 + 1) / 2);
        is("below of eight", eight.alike(RIGHT, 1), 50000000);
        HayFootStraw sure = Due.laid("m1,0,0,0;".repeat(8));
        is("above of eight, P 0", sure.alike(RIGHT, 0), 1);
        is("below of eight, P 0", sure.alike(RIGHT, 1), 1);
        HayFootStraw all = Due.laid("m1,0,0,10;".repeat(8));
        is("above of eight, P 10", all.alike(RIGHT, 0), 1);
        is("below of eight, P 10", all.alike(RIGHT, 1), 1);
        HayFootStraw mixed = Due.laid("m1,0,0,10;m1,0,0,0;");
        is("never, above", mixed.alike(RIGHT, 0), 0);
        is("never, below", mixed.alike(RIGHT, 1), 1);
        HayFootStraw quarter = Due.laid("m1,0,0,5;m1,1,0,5;");
        is("a quarter turn apart, above", quarter.alike(LEFT, 0), 0);
        is("a quarter turn apart, below", quarter.alike(LEFT, 1), 1);
        HayFootStraw alone = Due.laid("m1,0,0,5;");
        is("alone, above", alone.alike(LEFT, 0), 1);
        is("alone, below", alone.alike(LEFT, 1), 1);
    }

    private static void rightByEachP() {
        DUE.says("RIGHT: how likely a MAN faces as is DUE behind it. In lowest terms");
        for (int p = 0; p <= 10; p++) {
            HayFootStraw x = Due.laid("m1,3,0," + p + ";m2,1,0,5;m0,0,0," + p + ";m2,0,3," + p + ";m3,0,0," + p + ";");
            int[] want = {10 - p, 10 - p, 10, 10 - p, 0};
            for (int i = 0; i < 5; i++) {
                for (int part = 0; part < 2; part++) {
                    is("LEFT, man " + i + ", P " + p, x.right(i, LEFT, part), LOWEST[want[i]][part]);
                    is("RIGHT, man " + i + ", P " + p, x.right(i, RIGHT, part), LOWEST[want[i]][part]);
                    is("ABOUT, man " + i + ", P " + p, x.right(i, ABOUT, part), LOWEST[i == 4 ? 0 : 10][part]);
                }
            }
            x.eyes(1);
            is("EYES shut, above", x.right(1, LEFT, 0), 1);
            is("EYES shut, below", x.right(1, LEFT, 1), 2);
        }
    }

    private static void rightBehindWrong() {
        DUE.says("RIGHT: how likely a MAN faces as is DUE behind it, who is WRONG ahead of it");
        for (int p = 0; p <= 10; p++) {
            HayFootStraw x = Due.laid("m1,0,0," + p + ";m0,0,0,0;");
            x.shout(0);
            x.shout(1);
            for (int part = 0; part < 2; part++) {
                is("he is right if he errs, P " + p, x.right(0, LEFT, part), LOWEST[p][part]);
                is("nobody errs by ABOUT", x.right(0, ABOUT, part), part);
                is("SURE stays wrong", x.right(1, LEFT, part), part);
            }
        }
        HayFootStraw late = Due.laid("m3,0,0,0;");
        late.word(LEFT);
        // He faces 0; he goes LEFT to 3, as is due behind LEFT and ABOUT .. 1, LEFT .. 2, RIGHT .. 0.
        for (int w = 0; w < 3; w++) is("LATE, " + w, late.right(0, w, 0), 0);
        late.shout(0);
        // By the shout he goes to 1.
        is("LATE and a shout, ABOUT", late.right(0, ABOUT, 0), 1);
        is("LATE and a shout, RIGHT", late.right(0, RIGHT, 0), 0);
    }

    private static void whichOfFacings() {
        DUE.says("WHICH WORDS (bits): those behind which a MAN would face f, as FORESEEN. BAD");
        for (int f = 0; f < 4; f++) {
            HayFootStraw x = Due.laid("m0," + f + ",0,0;m1," + f + ",0,5;m3," + f + ",0,0;");
            int[][] want = {{0, 2, 4, 1}, {0, 1, 4, 2}, {7, 0, 0, 0}};
            for (int i = 0; i < 3; i++) {
                for (int on = 0; on < 4; on++) {
                    is("which " + i + " " + (f + on) % 4, x.which(i, (f + on) % 4), want[i][on]);
                }
            }
            is("which, f -1", x.which(0, -1), BAD);
            is("which, f 4", x.which(0, 4), BAD);
            for (int far : FAR) is("which, f " + far, x.which(0, far), BAD);
        }
    }

    private static void safeIsTheFirstOther() {
        DUE.says("SAFE for a MAN: the first other one at whom he could look so that he would follow a SURE one");
        HayFootStraw x = Due.laid(EIGHT_SURE);
        is("safe for 0", x.safe(0), 1);
        for (int i = 1; i < 8; i++) is("safe for " + i, x.safe(i), 0);
        HayFootStraw last = Due.laid("m1,0,0,0;m3,0,0,0;m2,0,2,0;m2,0,1,0;m2,0,0,0;m1,0,7,0;m3,0,7,0;m0,0,7,0;");
        for (int i = 0; i < 7; i++) is("the last is the first, " + i, last.safe(i), 7);
        is("not he himself", last.safe(7), NONE);
        HayFootStraw by = Due.laid("m2,0,3,0;m2,0,0,0;m1,0,0,0;m0,0,0,0;");
        // 1 looks at 0, and 0 at the SURE 3.
        is("by one who looks at one who looks", by.safe(2), 0);
        is("whatever he is, UNSURE", by.safe(2), 0);
        is("not by those who look at himself", by.safe(0), 3);
        is("by one who looks", by.safe(1), 0);
        by.eyes(1);
        is("EYES open, though they are shut", by.safe(2), 0);
    }

    private static void safeIsNone() {
        DUE.says("SAFE: .. not himself, EYES open; none");
        is("one SURE one alone", Due.laid("m0,0,0,0;").safe(0), NONE);
        HayFootStraw x = Due.laid("m0,0,0,0;m2,0,0,0;m2,0,1,0;");
        is("all others look at him", x.safe(0), NONE);
        is("the next one", x.safe(1), 0);
        is("the last one", x.safe(2), 0);
        HayFootStraw never = Due.laid("m1,0,0,0;m1,0,0,0;m3,0,0,0;m2,0,3,0;m2,0,5,0;m2,0,4,0;m2,0,0,0;");
        for (int i = 0; i < 7; i++) is("nobody is SURE, " + i, never.safe(i), NONE);
    }

    private static void numbersFromOneToFive() {
        DUE.says("BY NUMBERS: of rows of n (1 to 5) WORDS how many there are. BAD");
        HayFootStraw all = Due.laid("m0,0,0,0;");
        HayFootStraw late = Due.laid("m0,0,0,0;m3,2,0,0;");
        HayFootStraw errs = Due.laid("m0,0,0,0;m1,2,0,5;");
        int[] rows = {3, 9, 27, 81, 243};
        // An odd number of words that are not ABOUT.
        int[] odd = {2, 4, 14, 40, 122};
        for (int n = 1; n <= 5; n++) {
            is("all rows of " + n, all.numbers(n), rows[n - 1]);
            is("those that end with ABOUT, " + n, late.numbers(n), rows[n - 1] / 3);
            is("those by which he errs, " + n, errs.numbers(n), odd[n - 1]);
        }
        late.word(LEFT);
        // They face 3 and 2; LATE goes LEFT and as the row but its last, which must be ABOUT again.
        for (int n = 1; n <= 5; n++) is("behind LEFT, " + n, late.numbers(n), rows[n - 1] / 3);
        is("numbers 0", all.numbers(0), BAD);
        is("numbers -1", all.numbers(-1), BAD);
        is("numbers 6", all.numbers(6), BAD);
        for (int far : FAR) is("numbers " + far, all.numbers(far), BAD);
    }

    /** The words of drills, by z. */
    private static final int[] DRILLS = {0, 1, 9998, 9999};
    private static final String[] DRILLED = {
        "010101201220011111100221021010101201220011111100221021010101",
        "000002210021210101201200111222111002102101012120012200000002",
        "102102121212011200111111100210210202020122011222222111021021",
        "120001111000211020212120200122000000002210210212120120112200"};

    private static void drillWordByWord() {
        DUE.says("A DRILL by z (0 to 9999) of n (1 to 60) WORDS: each is DRAW modulo 3; behind how many of them all faced one way");
        for (int d = 0; d < DRILLS.length; d++) {
            for (int w = 0; w < 3; w++) {
                // SURE and LATE face one way just behind the words w.
                HayFootStraw x = Due.laid("m0,0,0,0;m3," + BY[w] + ",0,0;");
                int alike = 0;
                for (int n = 1; n <= 60; n++) {
                    if (DRILLED[d].charAt(n - 1) == '0' + w) alike++;
                    is("drill " + DRILLS[d] + " of " + n, x.drill(DRILLS[d], n, 1), alike);
                }
            }
        }
    }

    private static void drillFromNowOn() {
        DUE.says("A DRILL from now on; who errs by S and the numbers of WORDS as always: how many are WRONG then");
        HayFootStraw x = Due.laid("m1,0,0,5;");
        // By z 0: LEFT, RIGHT, LEFT, RIGHT; he draws 0, 5, 7, 4, 8: he errs at the words 0 and 3.
        int[] wrong = {1, 1, 1, 0, 0};
        for (int n = 1; n <= 5; n++) is("of " + n, x.drill(0, n, 0), wrong[n - 1]);
        x.word(ABOUT);
        int[] fromOne = {0, 0, 1, 1, 1};
        for (int n = 1; n <= 5; n++) is("from word 1 on, of " + n, x.drill(0, n, 0), fromOne[n - 1]);
        x.shout(0);
        for (int n = 1; n <= 5; n++) is("of one who is WRONG now, " + n, x.drill(0, n, 0), 1 - fromOne[n - 1]);
        is("words", x.count(1), 1);
        is("can be undone", x.count(3), 2);
    }

    private static void drillOfOtherNumbers() {
        DUE.says("A DRILL by z (0 to 9999) of n (1 to 60) WORDS: WRONG (what = 0), behind how many (1). BAD");
        HayFootStraw x = Due.laid("m0,0,0,0;");
        is("z -1", x.drill(-1, 1, 0), BAD);
        is("z 0", x.drill(0, 1, 0), 0);
        is("z 9999", x.drill(9999, 1, 1), 1);
        is("z 10000", x.drill(10000, 1, 0), BAD);
        is("n 0", x.drill(0, 0, 1), BAD);
        is("n 1", x.drill(0, 1, 1), 1);
        is("n 60", x.drill(0, 60, 1), 60);
        is("n 61", x.drill(0, 61, 1), BAD);
        is("what -1", x.drill(0, 1, -1), BAD);
        is("what 2", x.drill(0, 1, 2), BAD);
        is("all three", x.drill(-1, 0, 2), BAD);
        for (int far : FAR) {
            // 256 is a z.
            is("z " + far, x.drill(far, 1, 0), far == 256 ? 0 : BAD);
            is("n " + far, x.drill(0, far, 0), BAD);
            is("what " + far, x.drill(0, 1, far), BAD);
        }
    }
}
