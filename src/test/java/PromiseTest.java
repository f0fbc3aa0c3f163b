/** Each promise by itself: ordinary inputs, the edges that the document names, wrong inputs. */
public final class PromiseTest {

    private static final int BAD = -1, NO = -2, FULL = -3, NONE = -4;
    private static final int[] OUTSIDE = {-1, Integer.MIN_VALUE, Integer.MAX_VALUE};

    private static final Due DUE = new Due();

    private PromiseTest() {}

    public static void main(String[] args) {
        newObject();
        write();
        wipe();
        faultOfForms();
        faultOfNumbers();
        lay();
        man();
        wordByKinds();
        wordByLooking();
        wordByDraws();
        shout();
        eyes();
        look();
        undo();
        who();
        follows();
        runs();
        most();
        groups();
        plan();
        turn();
        alike();
        right();
        which();
        safe();
        numbers();
        drill();
        keepAndBack();
        count();
        eightMen();
        DUE.end();
    }

    private static void is(String call, int got, int want) {
        DUE.is(call, got, want);
    }

    // 1
    private static void newObject() {
        HayFootStraw x = new HayFootStraw();
        int[][] men = {{0, 0, 0}, {1, 0, 10}, {2, 1, 0}, {2, 2, 3}, {3, 0, 0}, {1, 5, 5}, {2, 3, 6}};
        is("men at first", x.count(0), men.length);
        for (int i = 0; i < men.length; i++) {
            is("kind at first of " + i, x.man(i, 0), men[i][0]);
            is("facing at first of " + i, x.man(i, 1), 0);
            is("looks at first of " + i, x.man(i, 2), men[i][1]);
            is("P at first of " + i, x.man(i, 3), men[i][2]);
        }
        for (int what = 1; what <= 5; what++) is("count at first of " + what, x.count(what), 0);
        // With the seed 4 man 5 draws 6 at the first word (not less than 5), with the seed 0 he draws 3.
        is("first word by the first seed", x.word(1), 5);
        is("man 5 does not err", x.man(5, 1), 1);
    }

    // 2
    private static void write() {
        HayFootStraw x = new HayFootStraw();
        is("write below", x.write(31), BAD);
        is("write above", x.write(127), BAD);
        for (int w : OUTSIDE) is("write " + w, x.write(w), BAD);
        is("nothing written", x.count(5), 0);
        for (int k = 1; k <= 200; k++) is("write " + k, x.write(k % 2 == 0 ? 32 : 126), k);
        is("write to a full text", x.write('m'), FULL);
        is("write badly to a full text", x.write(31), BAD);
        is("length of a full text", x.count(5), 200);
    }

    // 3
    private static void wipe() {
        HayFootStraw x = new HayFootStraw();
        is("wipe of nothing", x.wipe(), 0);
        Due.put(x, "z1;z");
        is("wipe", x.wipe(), 4);
        is("wipe again", x.wipe(), 0);
        is("men stay", x.count(0), 7);
        is("write behind wipe", x.write('z'), 1);
        for (int k = 0; k < 300; k++) x.write('z');
        is("wipe of a full text", x.wipe(), 200);
    }

    // 4
    private static int faultOf(String text) {
        HayFootStraw x = new HayFootStraw();
        Due.put(x, text);
        return x.fault();
    }

    private static void fault(String text, int want) {
        is("fault of " + text, faultOf(text), want);
    }

    private static void faultOfForms() {
        fault("", NONE);
        fault(";", 0);
        fault(" ", 0);
        fault("m", 0);
        fault("m0,0,0,0", 0);
        fault("m0,0,0;", 0);
        fault("m0,0,0,0,0;", 0);
        fault("m0,0,0,;", 0);
        fault("m,0,0,0;", 0);
        fault("m 0,0,0,0;", 0);
        fault("M0,0,0,0;", 0);
        fault("m0;0,0,0;", 0);
        fault("m0,0,0,0;;", 9);
        fault("m0,0,0,0; m0,0,0,0;", 9);
        fault("z;", 0);
        fault("z1,2;", 0);
        fault("z100;", 0);
        fault("z001;", 0);
        fault("z-1;", 0);
        fault("e;", 0);
        fault("e1", 0);
        fault("z5;e1;z6;e2;x", 9);
        fault("x;m9,9,9,9;", 0);
        fault("x1;", 0);
        fault("m0,0,0,0;n1;", 9);
        fault("m00,03,07,10;z00;z07;e01;e00;", NONE);
        fault("z99;e1;e0;z0;", NONE);
    }

    private static void faultOfNumbers() {
        fault("m3,3,7,10;", NONE);
        fault("m4,0,0,0;", 0);
        fault("m0,4,0,0;", 0);
        fault("m0,0,8,0;", 0);
        fault("m0,0,0,11;", 0);
        fault("m0,0,0,010;", 0);
        fault("e2;", 0);
        fault("e10;", 0);
        String eight = "m0,0,0,0;".repeat(8);
        fault(eight, NONE);
        fault(eight + "z1;m0,0,0,0;", 75);
        fault(eight + "z1;", NONE);
        HayFootStraw x = Due.laid("m0,1,0,0;");
        Due.put(x, "m0,2,0,0;m");
        is("fault", x.fault(), 9);
        is("a fault lays nothing", x.man(0, 1), 1);
        Due.put(x, "m0,2,0,0;m0,2,0,0;");
        is("no fault", x.fault(), NONE);
        is("no fault lays nothing", x.count(0), 1);
        is("a text that was looked at stays", x.count(5), 18);
    }

    // 5
    private static void lay() {
        HayFootStraw x = new HayFootStraw();
        is("lay of nothing", x.lay(), NO);
        is("lay without men", Due.lay(x, "z3;e1;"), NO);
        is("lay of a fault", Due.lay(x, "m0,0,0,0;m"), NO);
        is("lay of one who looks at nobody", Due.lay(x, "m0,0,1,0;"), NO);
        is("nobody of any kind", Due.lay(x, "m2,0,0,0;m3,0,2,0;"), NO);
        is("the squad stays", x.count(0), 7);
        x.word(2);
        x.keep();
        is("what was done stays", Due.lay(x, "m0,0,1,0;"), NO);
        is("words stay", x.count(1), 1);
        is("undone stays", x.count(3), 1);
        is("kept stays", x.count(4), 1);
        is("lay", Due.lay(x, "m2,1,1,4;e1;m3,3,0,10;e0;e1;"), 2);
        for (int what : new int[] {1, 3, 4}) is("laid anew, count of " + what, x.count(what), 0);
        is("eyes as laid", x.count(2), 1);
        is("the text stays", x.count(5), 28);
        is("undo behind lay", x.undo(), NO);
        is("back behind lay", x.back(), NO);
        is("erred behind lay", x.who(2), 0);
        x.word(0);
        is("lay again", x.lay(), 2);
        is("words behind lay again", x.count(1), 0);
        is("facing behind lay again", x.man(1, 1), 3);
        x.shout(1);
        x.shout(1);
        x.word(1);
        is("lay once more", x.lay(), 2);
        is("due behind lay", x.man(0, 4), 1);
        is("right by two wrongs behind lay", x.who(1), 0);
        is("LATE behind lay", x.turn(1, 0), 3);
        is("eight men", Due.lay(x, "m0,0,7,0;".repeat(8)), 8);
        is("seed and eyes without", Due.lay(x, "m1,0,0,1;"), 1);
        is("eyes without", x.count(2), 0);
        is("he errs by a draw of 0, seed without", x.word(0), 1);
    }

    // 6
    private static void man() {
        HayFootStraw x = Due.laid("m2,1,1,4;m3,3,0,10;");
        int[][] want = {{2, 1, 1, 4, 1}, {3, 3, 0, 10, 3}};
        for (int i = 0; i < 2; i++) {
            for (int what = 0; what < 5; what++) is("man " + i + " " + what, x.man(i, what), want[i][what]);
            is("man, what beyond", x.man(i, 5), BAD);
            is("man, what below", x.man(i, -1), BAD);
        }
        is("man beyond", x.man(2, 0), BAD);
        is("man of those there were", x.man(6, 0), BAD);
        for (int o : OUTSIDE) is("man " + o, x.man(o, o), BAD);
        x.word(0);
        x.word(2);
        is("due by LEFT and ABOUT", x.man(1, 4), 0);
        is("late by LEFT", x.man(1, 1), 2);
        x.shout(1);
        is("due behind a shout", x.man(1, 4), 0);
        is("facing behind a shout", x.man(1, 1), 0);
        x.look(0, 0);
        is("looks behind look", x.man(0, 2), 0);
    }

    // 7
    private static void wordByKinds() {
        HayFootStraw x = Due.laid("m0,0,0,10;m1,0,0,10;m1,0,0,0;m3,0,0,10;");
        is("LEFT", x.word(0), 2);
        is("SURE by LEFT", x.man(0, 1), 3);
        is("who errs by LEFT", x.man(1, 1), 1);
        is("UNSURE, P 0, by LEFT", x.man(2, 1), 3);
        is("LATE at the first", x.man(3, 1), 0);
        is("RIGHT", x.word(1), 1);
        is("who errs by RIGHT", x.man(1, 1), 0);
        is("LATE by LEFT ahead", x.man(3, 1), 3);
        is("ABOUT", x.word(2), 1);
        is("nobody errs by ABOUT", x.man(1, 1), 2);
        is("LATE by RIGHT ahead", x.man(3, 1), 0);
        x.shout(0);
        is("a shout is no word ahead", x.word(0), 3);
        is("LATE by ABOUT ahead", x.man(3, 1), 2);
        for (int o : OUTSIDE) is("word " + o, x.word(o), BAD);
        is("word beyond", x.word(3), BAD);
        is("words", x.count(1), 4);
        for (int k = 4; k < 999; k++) x.word(k % 3);
        is("999 words", x.count(1), 999);
        is("word behind the last", x.word(0), NO);
        is("bad word behind the last", x.word(3), BAD);
    }

    private static void wordByLooking() {
        HayFootStraw x = Due.laid("m2,0,1,0;m2,0,2,0;m1,0,2,10;m2,0,4,10;m2,0,3,0;m2,0,3,10;m2,0,7,10;m3,0,0,0;");
        // 0 and 1 look at 2 who errs; 3 and 4 at one another, 5 at 3; 6 at 7 who is late.
        is("RIGHT", x.word(1), 7);
        int[] first = {3, 3, 3, 3, 1, 3, 0, 0};
        for (int i = 0; i < 8; i++) is("facing of " + i, x.man(i, 1), first[i]);
        x.eyes(1);
        is("RIGHT, EYES shut", x.word(1), 4);
        int[] second = {0, 0, 2, 2, 2, 2, 3, 1};
        for (int i = 0; i < 8; i++) is("facing, EYES shut, of " + i, x.man(i, 1), second[i]);
        HayFootStraw alone = Due.laid("m2,0,0,10;m2,0,1,0;");
        is("who look at themselves", alone.word(0), 1);
        is("himself, P 10", alone.man(0, 1), 1);
    }

    private static void wordByDraws() {
        // x = 1: DRAW 0. x = 3572: DRAW 3. x = 6152, at word 1: DRAW 5. x = 15839, seed 2: DRAW 1.
        HayFootStraw x = Due.laid("m1,0,0,1;m1,0,0,3;");
        is("draws 0 and 3, P 1 and 3", x.word(0), 1);
        is("man 0 errs", x.man(0, 1), 1);
        x = Due.laid("m1,0,0,0;m1,0,0,4;");
        is("draws 0 and 3, P 0 and 4", x.word(0), 1);
        is("man 1 errs", x.man(1, 1), 1);
        x = Due.laid("m1,0,0,5;");
        is("errs at word 0", x.word(0), 1);
        is("not at word 1, by 5", x.word(0), 1);
        x.undo();
        x.undo();
        is("the number of a word undone is used again", x.word(0), 1);
        x = Due.laid("m1,0,0,6;");
        x.word(2);
        is("errs at word 1, by 6", x.word(0), 1);
        is("seed 2, P 1", Due.laid("m1,0,0,1;z2;").word(0), 0);
        is("seed 2, P 2", Due.laid("m1,0,0,2;z0;z2;").word(0), 1);
    }

    // 8
    private static void shout() {
        HayFootStraw x = Due.laid("m0,0,0,0;m2,0,0,0;m2,1,1,0;m1,0,0,0;m2,0,3,0;m2,0,6,0;m2,0,5,0;m2,0,5,0;");
        is("shout at SURE", x.shout(0), 3);
        int[] facing = {2, 2, 3, 0, 0, 0, 0, 0};
        for (int i = 0; i < 8; i++) is("facing behind a shout, " + i, x.man(i, 1), facing[i]);
        is("shout at one amid", x.shout(1), 2);
        is("UNSURE ones do not look", x.shout(3), 2);
        is("shout at one who comes round", x.shout(5), 1);
        is("shout at one who looks at such", x.shout(7), 1);
        is("they can be undone", x.count(3), 5);
        is("shouts are no words", x.count(1), 0);
        x.eyes(1);
        is("shout, EYES shut", x.shout(0), 1);
        is("shout beyond", x.shout(8), BAD);
        for (int o : OUTSIDE) is("shout " + o, x.shout(o), BAD);
        is("bad shouts are not undone", x.count(3), 7);
        is("a shout makes wrong", Due.laid("m0,0,0,0;").shout(0), 1);
    }

    // 9
    private static void eyes() {
        HayFootStraw x = Due.laid("m0,0,0,0;");
        is("eyes shut", x.eyes(1), 0);
        is("eyes shut again", x.eyes(1), 1);
        is("eyes open", x.eyes(0), 1);
        is("eyes open again", x.eyes(0), 0);
        is("eyes beyond", x.eyes(2), BAD);
        for (int o : OUTSIDE) is("eyes " + o, x.eyes(o), BAD);
        is("four can be undone", x.count(3), 4);
        x.undo();
        x.undo();
        is("shut again by undo", x.count(2), 1);
    }

    // 10
    private static void look() {
        HayFootStraw x = Due.laid("m0,0,1,0;m2,0,0,0;");
        is("look", x.look(0, 0), 1);
        is("look again", x.look(0, 0), 0);
        is("whom he looks at", x.man(0, 2), 0);
        is("LOOKING at himself", x.look(1, 1), 0);
        is("look beyond", x.look(2, 0), BAD);
        is("look at one beyond", x.look(0, 2), BAD);
        for (int o : OUTSIDE) {
            is("look " + o, x.look(o, 0), BAD);
            is("look at " + o, x.look(0, o), BAD);
        }
        is("three can be undone", x.undo(), 2);
        is("undone", x.man(1, 2), 0);
    }

    // 11
    private static void undo() {
        HayFootStraw x = Due.laid("m1,0,0,10;m3,0,0,0;m2,0,0,0;");
        is("undo of nothing", x.undo(), NO);
        x.word(0);
        x.shout(1);
        x.eyes(1);
        x.look(2, 1);
        is("wrong", x.who(0), 7);
        is("undo look", x.undo(), 3);
        is("looks as ahead", x.man(2, 2), 0);
        is("eyes as ahead", x.count(2), 1);
        is("undo eyes", x.undo(), 2);
        is("eyes open", x.count(2), 0);
        is("undo shout", x.undo(), 1);
        is("facing as ahead", x.man(1, 1), 0);
        is("undo word", x.undo(), 0);
        is("no words", x.count(1), 0);
        is("nobody erred", x.who(2), 0);
        is("nobody wrong", x.who(0), 0);
        x.word(1);
        is("LATE does nothing at the first word again", x.man(1, 1), 0);
        x.undo();
        for (int k = 0; k < 11; k++) x.word(k % 3);
        is("the last 8", x.count(3), 8);
        int[] dueThen = {2, 1, 2, 0, 3, 0, 2, 1};
        for (int left = 7; left >= 0; left--) {
            is("undo", x.undo(), left);
            is("due behind undo " + left, x.man(0, 4), dueThen[left]);
        }
        is("no more", x.undo(), NO);
        is("three words stay", x.count(1), 3);
        is("due by LEFT, RIGHT, ABOUT", x.man(0, 4), 2);
    }

    // 12
    private static void who() {
        HayFootStraw x = Due.laid("m0,0,0,0;m1,0,0,10;m3,0,0,0;m2,0,1,0;");
        for (int what = 0; what < 3; what++) is("who at first", x.who(what), 0);
        x.word(0);
        is("WRONG", x.who(0), 14);
        is("TWICE", x.who(1), 0);
        is("ERRED", x.who(2), 14);
        x.word(0);
        is("WRONG behind two", x.who(0), 4);
        is("TWICE behind two", x.who(1), 10);
        is("ERRED behind two", x.who(2), 14);
        x.shout(0);
        is("WRONG by a shout", x.who(0), 5);
        is("shouted at is not ERRED", x.who(2), 14);
        x.shout(0);
        is("TWICE by two shouts", x.who(1), 11);
        x.undo();
        x.undo();
        is("shouts undone", x.who(1), 10);
        is("who beyond", x.who(3), BAD);
        for (int o : OUTSIDE) is("who " + o, x.who(o), BAD);
        HayFootStraw several = Due.laid("m0,0,0,0;m0,0,0,0;");
        several.shout(0);
        several.shout(0);
        several.shout(1);
        is("TWICE, though another one was shouted at since", several.who(1), 1);
        HayFootStraw late = Due.laid("m0,0,0,0;m3,0,0,0;m2,0,1,0;");
        late.word(2);
        late.word(2);
        is("LATE and who looks at him", late.who(2), 6);
        HayFootStraw heard = Due.laid("m0,0,0,0;m2,0,0,0;");
        heard.shout(0);
        heard.shout(0);
        is("TWICE by another one's shouts", heard.who(1), 3);
    }

    // 13
    private static void follows() {
        HayFootStraw x = Due.laid("m0,0,1,0;m2,0,0,0;m2,0,1,0;m3,0,0,0;m2,0,3,0;m2,0,6,0;m2,0,6,0;m1,0,0,0;");
        int[] want = {0, 0, 0, 3, 3, NONE, NONE, 7};
        for (int i = 0; i < 8; i++) is("follows " + i, x.follows(i), want[i]);
        x.eyes(1);
        for (int i = 0; i < 8; i++) is("follows, EYES shut, " + i, x.follows(i), i);
        is("follows beyond", x.follows(8), BAD);
        for (int o : OUTSIDE) is("follows " + o, x.follows(o), BAD);
        HayFootStraw eight = Due.laid("m2,0,1,0;m2,0,2,0;m2,0,3,0;m2,0,4,0;m2,0,5,0;m2,0,6,0;m2,0,7,0;m0,0,0,0;");
        is("a row of seven who look", eight.follows(0), 7);
    }

    // 14
    private static void runs() {
        HayFootStraw x = Due.laid("m0,0,0,0;m2,0,0,0;m2,0,1,0;m3,0,0,0;m2,0,3,0;m2,0,6,0;m2,0,5,0;e1;");
        int[] want = {2, 0, 0, 1, 0, 0, 0};
        for (int i = 0; i < 7; i++) is("runs " + i, x.runs(i), want[i]);
        x.look(1, 3);
        is("runs behind look", x.runs(3), 3);
        is("man 0 follows, too", Due.laid("m2,0,1,0;m0,0,0,0;").runs(1), 1);
        is("runs of those there were not", x.runs(7), BAD);
        for (int o : OUTSIDE) is("runs " + o, x.runs(o), BAD);
    }

    // 15
    private static void most() {
        HayFootStraw x = Due.laid("m0,3,0,0;m0,2,0,0;m0,3,0,0;m0,2,0,0;m0,0,0,0;");
        is("most, the lowest", x.most(0), 2);
        is("most, how many", x.most(1), 2);
        x.shout(4);
        is("most behind a shout, how many", x.most(1), 3);
        is("most beyond", x.most(2), BAD);
        for (int o : OUTSIDE) is("most " + o, x.most(o), BAD);
        is("most, the lowest of all", Due.laid("m0,1,0,0;m0,0,0,0;").most(0), 0);
        is("most of one", Due.laid("m0,3,0,0;").most(0), 3);
    }

    // 16
    private static void groups() {
        HayFootStraw x = Due.laid("m0,3,0,0;m0,3,0,0;m0,1,0,0;m0,3,0,0;m0,3,0,0;m0,3,0,0;m0,0,0,0;");
        is("groups", x.groups(0), 4);
        is("groups, the longest", x.groups(1), 3);
        x.shout(2);
        is("groups behind a shout", x.groups(0), 2);
        is("groups behind a shout, the longest", x.groups(1), 6);
        is("groups beyond", x.groups(2), BAD);
        for (int o : OUTSIDE) is("groups " + o, x.groups(o), BAD);
        is("one man", Due.laid("m0,3,0,0;").groups(0), 1);
        is("one man long", Due.laid("m0,3,0,0;").groups(1), 1);
    }

    // 17
    private static void plan(String text, int... words) {
        HayFootStraw x = Due.laid(text);
        is("plan's length for " + text, x.plan(-1), words.length);
        for (int k = 0; k < 5; k++) is("plan's " + k + " for " + text, x.plan(k), k < words.length ? words[k] : NONE);
        is("plan beyond", x.plan(5), BAD);
        is("plan below", x.plan(-2), BAD);
    }

    private static void plan() {
        plan("m0,0,0,0;m0,0,0,0;");
        plan("m0,2,0,0;m1,0,0,5;", 0);
        plan("m0,0,0,0;m3,3,0,0;", 0);
        plan("m0,0,0,0;m3,1,0,0;", 1);
        plan("m0,0,0,0;m3,2,0,0;", 2);
        // The difference of SURE and LATE is the last word's turn; of SURE and him who errs, 2 for
        // each word but ABOUT: an even number of these, the last one LEFT, LEFT first.
        plan("m0,0,0,0;m3,3,0,0;m1,0,0,10;", 0, 0);
        plan("m0,0,0,0;m3,2,0,0;m1,2,0,10;", 0, 2);
        HayFootStraw never = Due.laid("m0,0,0,0;m0,1,0,0;");
        for (int k = -1; k < 5; k++) is("no plan, " + k, never.plan(k), NONE);
        is("no plan beyond", never.plan(5), BAD);
        for (int o : OUTSIDE) if (o != -1) is("plan " + o, never.plan(o), BAD);
        HayFootStraw looking = Due.laid("m0,2,0,0;m2,0,0,10;");
        is("no plan, as he looks", looking.plan(-1), NONE);
        looking.eyes(1);
        is("plan, EYES shut", looking.plan(-1), 1);
        HayFootStraw ahead = Due.laid("m0,0,0,0;m3,0,0,0;");
        ahead.word(0);
        // They face 3 and 0; behind RIGHT 0 and 3, behind LEFT 2 and 3, behind ABOUT 1 and 3.
        is("no single word", ahead.numbers(1), 0);
        is("a plan changes nothing", ahead.count(1), 1);
    }

    // 18
    private static void turn() {
        HayFootStraw x = Due.laid("m0,1,0,0;m1,1,0,4;m1,1,0,5;m2,1,2,0;m3,1,0,9;m2,1,5,7;");
        int[][] want = {{0, 2, 3}, {0, 2, 3}, {2, 0, 3}, {2, 0, 3}, {1, 1, 1}, {2, 0, 3}};
        for (int i = 0; i < 6; i++) {
            for (int w = 0; w < 3; w++) is("turn " + i + " " + w, x.turn(i, w), want[i][w]);
        }
        is("man 0 errs", Due.laid("m1,0,0,5;").turn(0, 0), 1);
        is("man 0 is late", Due.laid("m3,0,0,5;").turn(0, 0), 0);
        x.word(1);
        is("LATE by RIGHT ahead", x.turn(4, 2), 2);
        is("nothing said", x.count(1), 1);
        x.eyes(1);
        is("LOOKING, EYES shut", x.turn(3, 0), (x.man(3, 1) + 3) % 4);
        is("turn beyond", x.turn(6, 0), BAD);
        is("turn, word beyond", x.turn(0, 3), BAD);
        for (int o : OUTSIDE) {
            is("turn " + o, x.turn(o, 0), BAD);
            is("turn by " + o, x.turn(0, o), BAD);
        }
    }

    // 19
    private static void alike(String text, int w, int above, int below) {
        HayFootStraw x = Due.laid(text);
        is("alike above, " + text, x.alike(w, 0), above);
        is("alike below, " + text, x.alike(w, 1), below);
    }

    private static void alike() {
        for (int f = 0; f < 4; f++) alike(("m0," + f + ",0,0;").repeat(2), 0, 1, 1);
        alike("m0,0,0,0;m0,1,0,0;", 0, 0, 1);
        alike("m0,0,0,0;m1,0,0,3;", 1, 7, 10);
        alike("m0,0,0,0;m1,2,0,4;", 1, 2, 5);
        alike("m0,0,0,0;m1,0,0,3;", 2, 1, 1);
        alike("m1,0,0,3;m1,0,0,4;", 0, 27, 50);
        alike("m1,0,0,3;m2,0,0,9;", 0, 1, 1);
        alike("m1,0,0,3;m2,0,0,9;e1;", 0, 17, 50);
        alike("m2,0,1,3;m2,0,0,4;m2,0,0,10;", 0, 3, 25);
        alike("m3,3,0,0;m1,0,0,10;m0,0,0,0;", 0, 0, 1);
        alike("m3,3,0,0;m1,0,0,1;m0,0,0,0;", 0, 9, 10);
        // 7 and 3 to the power of 8 together, halved.
        alike("m1,0,0,3;".repeat(8), 0, (5764801 + 6561) / 2, 50000000);
        alike("m1,0,0,5;".repeat(8), 1, 1, 128);
        alike("m1,0,0,0;", 1, 1, 1);
        HayFootStraw x = new HayFootStraw();
        is("alike, word beyond", x.alike(3, 0), BAD);
        is("alike, part beyond", x.alike(0, 2), BAD);
        for (int o : OUTSIDE) {
            is("alike by " + o, x.alike(o, 0), BAD);
            is("alike, part " + o, x.alike(0, o), BAD);
        }
    }

    // 20
    private static void right() {
        HayFootStraw x = Due.laid("m0,1,0,9;m1,2,0,4;m2,3,1,0;m3,0,0,0;m2,0,4,10;m2,0,4,0;");
        int[][] above = {{1, 1, 1}, {3, 3, 1}, {3, 3, 1}, {0, 0, 0}, {0, 0, 1}, {1, 1, 1}};
        int[][] below = {{1, 1, 1}, {5, 5, 1}, {5, 5, 1}, {1, 1, 1}, {1, 1, 1}, {1, 1, 1}};
        for (int i = 0; i < 6; i++) {
            for (int w = 0; w < 3; w++) {
                is("right above " + i + " " + w, x.right(i, w, 0), above[i][w]);
                is("right below " + i + " " + w, x.right(i, w, 1), below[i][w]);
            }
        }
        x.shout(1);
        is("right by an error, above", x.right(1, 0, 0), 2);
        is("right by an error, below", x.right(1, 0, 1), 5);
        is("wrong by ABOUT", x.right(1, 2, 0), 0);
        is("wrong by ABOUT, below", x.right(1, 2, 1), 1);
        is("right beyond", x.right(6, 0, 0), BAD);
        is("right, word beyond", x.right(0, 3, 0), BAD);
        is("right, part beyond", x.right(0, 0, 2), BAD);
        for (int o : OUTSIDE) {
            is("right " + o, x.right(o, 0, 0), BAD);
            is("right by " + o, x.right(0, o, 0), BAD);
            is("right, part " + o, x.right(0, 0, o), BAD);
        }
    }

    // 21
    private static void which() {
        HayFootStraw x = Due.laid("m0,1,0,0;m1,1,0,5;m3,1,0,0;");
        int[][] want = {{1, 0, 2, 4}, {2, 0, 1, 4}, {0, 7, 0, 0}};
        for (int i = 0; i < 3; i++) {
            for (int f = 0; f < 4; f++) is("which " + i + " " + f, x.which(i, f), want[i][f]);
        }
        is("which beyond", x.which(3, 0), BAD);
        is("which, facing beyond", x.which(0, 4), BAD);
        for (int o : OUTSIDE) {
            is("which " + o, x.which(o, 0), BAD);
            is("which, facing " + o, x.which(0, o), BAD);
        }
    }

    // 22
    private static void safe() {
        HayFootStraw x = Due.laid("m2,0,3,0;m1,0,0,0;m2,0,0,0;m0,0,0,0;m2,0,4,0;m0,0,0,0;e1;");
        // 0 looks at the SURE 3, 2 at 0; for 0 himself 2 would come round; for 3, 0 and 2 would.
        int[] want = {3, 0, 0, 5, 0, 0};
        for (int i = 0; i < 6; i++) is("safe for " + i, x.safe(i), want[i]);
        x.look(0, 1);
        is("not by one who follows UNSURE", x.safe(4), 3);
        is("safe beyond", x.safe(6), BAD);
        for (int o : OUTSIDE) is("safe " + o, x.safe(o), BAD);
        is("the only SURE one", Due.laid("m0,0,0,0;m2,0,0,0;").safe(0), NONE);
        is("alone", Due.laid("m0,0,0,0;").safe(0), NONE);
        is("LATE is not SURE", Due.laid("m1,0,0,0;m3,0,0,0;").safe(0), NONE);
    }

    // 23
    private static void numbers() {
        HayFootStraw all = Due.laid("m0,0,0,0;");
        int[] rows = {3, 9, 27, 81, 243};
        for (int n = 1; n <= 5; n++) is("numbers of one, " + n, all.numbers(n), rows[n - 1]);
        HayFootStraw one = Due.laid("m0,0,0,0;m1,0,0,5;");
        // An even number of words that are not ABOUT: half of 3^n and 1 or -1 together.
        int[] even = {1, 5, 13, 41, 121};
        for (int n = 1; n <= 5; n++) is("numbers by errors, " + n, one.numbers(n), even[n - 1]);
        HayFootStraw late = Due.laid("m0,0,0,0;m3,3,0,0;");
        for (int n = 1; n <= 5; n++) is("numbers, LATE, " + n, late.numbers(n), rows[n - 1] / 3);
        is("never", Due.laid("m0,0,0,0;m0,1,0,0;").numbers(5), 0);
        is("numbers below", all.numbers(0), BAD);
        is("numbers beyond", all.numbers(6), BAD);
        for (int o : OUTSIDE) is("numbers " + o, all.numbers(o), BAD);
    }

    // 24
    private static void drill() {
        // z 0 draws LEFT, RIGHT, LEFT: x = 1, 6152, 12303.
        HayFootStraw x = Due.laid("m0,0,0,0;m3,3,0,0;");
        is("LEFT", x.drill(0, 1, 1), 1);
        is("LEFT, WRONG", x.drill(0, 1, 0), 1);
        is("LEFT, RIGHT", x.drill(0, 2, 1), 1);
        is("LEFT, RIGHT, LEFT", x.drill(0, 3, 1), 2);
        is("a drill says nothing", x.count(1), 0);
        is("a drill turns nobody", x.man(0, 1), 0);
        is("a drill is not undone", x.count(3), 0);
        is("nobody erred by a drill", x.who(2), 0);
        HayFootStraw errs = Due.laid("m1,0,0,6;m0,0,0,0;");
        // He draws 0 at word 0 and 5 at word 1: he errs by LEFT, then by RIGHT.
        is("errs", errs.drill(0, 1, 0), 1);
        is("errs twice", errs.drill(0, 2, 0), 0);
        is("one way at the second", errs.drill(0, 2, 1), 1);
        errs.word(2);
        is("numbers of words go on", errs.drill(0, 1, 0), 1);
        HayFootStraw all = Due.laid("m0,0,0,0;");
        is("the longest", all.drill(9999, 60, 1), 60);
        is("the longest, WRONG", all.drill(9999, 60, 0), 0);
        is("z beyond", all.drill(10000, 1, 0), BAD);
        is("n below", all.drill(0, 0, 0), BAD);
        is("n beyond", all.drill(0, 61, 0), BAD);
        is("what beyond", all.drill(0, 1, 2), BAD);
        for (int o : OUTSIDE) {
            is("drill by " + o, all.drill(o, 1, 0), BAD);
            is("drill of " + o, all.drill(0, o, 0), BAD);
            is("drill, what " + o, all.drill(0, 1, o), BAD);
        }
    }

    // 25, 26
    private static void keepAndBack() {
        HayFootStraw x = Due.laid("m1,0,0,10;m2,0,0,0;m3,0,0,0;");
        is("back without", x.back(), NO);
        x.word(0);
        x.shout(0);
        is("keep", x.keep(), 1);
        is("keep undoes nothing", x.count(3), 2);
        x.word(2);
        x.eyes(1);
        x.look(1, 2);
        is("keep again", x.keep(), 2);
        is("keep once more", x.keep(), FULL);
        x.undo();
        is("undo leaves what is kept", x.count(4), 2);
        x.word(0);
        is("back", x.back(), 1);
        is("nothing is undone", x.undo(), NO);
        is("words", x.count(1), 2);
        is("eyes", x.count(2), 1);
        is("looks", x.man(1, 2), 2);
        is("back again", x.back(), 0);
        is("words again", x.count(1), 1);
        is("eyes again", x.count(2), 0);
        is("looks again", x.man(1, 2), 0);
        is("facing again", x.man(0, 1), 3);
        is("due again", x.man(0, 4), 3);
        is("who erred again", x.who(2), 7);
        is("who is right by two wrongs again", x.who(1), 3);
        x.word(1);
        is("LATE by the word ahead that was kept", x.man(2, 1), 3);
        is("back without", x.back(), NO);
        is("keep anew", x.keep(), 1);
        HayFootStraw fresh = Due.laid("m1,0,0,10;");
        fresh.keep();
        fresh.word(0);
        fresh.back();
        is("who erred by words that are no more", fresh.who(2), 0);
    }

    /** The last man of a full squad, by each call that takes one. */
    private static void eightMen() {
        HayFootStraw x = Due.laid("m2,0,7,0;".repeat(7) + "m0,0,0,0;");
        is("shout at the last", x.shout(7), 8);
        is("all follow the last", x.runs(7), 7);
        is("the first follows the last", x.follows(0), 7);
        is("look of the last", x.look(7, 7), 0);
        is("turn of the last", x.turn(7, 0), 1);
        is("right of the last", x.right(7, 0, 0), 0);
        is("which of the last", x.which(7, 1), 1);
        is("safe for the last", x.safe(7), NONE);
        is("safe for the first", x.safe(0), 1);
        is("plan of eight", x.plan(-1), 0);
        is("numbers of eight", x.numbers(5), 243);
        is("alike of eight", x.alike(0, 0), 1);
        is("drill of eight", x.drill(1, 60, 0), 8);
        is("drill of eight, one way", x.drill(1, 60, 1), 60);
        is("word to eight", x.word(1), 8);
        is("who of eight", x.who(0), 255);
        is("most of eight", x.most(1), 8);
        is("groups of eight", x.groups(1), 8);
        // Of those who were there nobody counts any longer.
        Due.lay(x, "m0,0,0,0;");
        is("runs of one, where others followed him", x.runs(0), 0);
        is("which was one of eight", x.follows(7), BAD);
    }

    // 27
    private static void count() {
        HayFootStraw x = Due.laid("m0,0,0,0;m0,0,0,0;e1;");
        x.word(0);
        x.word(1);
        x.word(2);
        x.shout(0);
        x.keep();
        int[] want = {2, 3, 1, 4, 1, 21};
        for (int what = 0; what < 6; what++) is("count " + what, x.count(what), want[what]);
        is("count beyond", x.count(6), BAD);
        for (int o : OUTSIDE) is("count " + o, x.count(o), BAD);
    }
}
