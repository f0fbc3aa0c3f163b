/** What the document says of a TEXT, sentence by sentence: on each bound, just below and just beyond it. */
public final class TextBoundsTest {

    private static final int BAD = -1, NO = -2, FULL = -3, NONE = -4;
    private static final String MAN = "m0,0,0,0;";

    private static final Due DUE = new Due();

    private TextBoundsTest() {}

    public static void main(String[] args) {
        firstSquad();
        textIsEmptyAtFirst();
        twoHundredLettersAtMost();
        fullTextIsRead();
        fullTextIsCutOff();
        lettersFrom32To126();
        wipedText();
        eachNumber("KIND K (0 SURE, 1 UNSURE, 2 LOOKING, 3 LATE)", "m", ",0,0,0;", 3);
        eachNumber("FACING F (0 to 3)", "m0,", ",0,0;", 3);
        eachNumber("who looks at MAN C (0 to 7, himself, too)", "m0,0,", ",0;", 7);
        eachNumber("errs by P (0 to 10) of ten", "m0,0,0,", ";", 10);
        eachNumber("zS the SEED of draws, S (0 to 99)", "z", ";", 99);
        eachNumber("EYES are open (0) or shut (1) at first", "e", ";", 1);
        howManyNumbers();
        marksBetweenNumbers();
        eachOtherLetter();
        eightMenAtMost();
        firstFaultOfSeveral();
        seedWithoutAndLast();
        eyesWithoutAndLast();
        noManNoSquad();
        lookingAtMenThereAre();
        refusedByAFault();
        layBeginsAnew();
        DUE.end();
    }

    private static void is(String call, int got, int want) {
        DUE.is(call, got, want);
    }

    private static HayFootStraw written(String text) {
        HayFootStraw x = new HayFootStraw();
        Due.put(x, text);
        return x;
    }

    private static void fault(String text, int want) {
        is("fault of " + text, written(text).fault(), want);
    }

    private static void lay(String text, int want) {
        is("lay of " + text, written(text).lay(), want);
    }

    private static void firstSquad() {
        DUE.says("at first m0,0,0,0;m1,0,0,10;m2,0,1,0;m2,0,2,3;m3,0,0,0;m1,0,5,5;m2,0,3,6;z4;");
        HayFootStraw first = new HayFootStraw();
        HayFootStraw same = Due.laid("m0,0,0,0;m1,0,0,10;m2,0,1,0;m2,0,2,3;m3,0,0,0;m1,0,5,5;m2,0,3,6;z4;");
        is("men", first.count(0), 7);
        for (int i = 0; i < 8; i++) {
            for (int what = 0; what < 5; what++) {
                is("man " + i + " " + what, first.man(i, what), same.man(i, what));
            }
        }
        for (int k = 0; k < 200; k++) {
            is("word " + k, first.word(k % 2), same.word(k % 2));
        }
    }

    private static void textIsEmptyAtFirst() {
        DUE.says("A new object: as told");
        HayFootStraw x = new HayFootStraw();
        is("letters", x.count(5), 0);
        is("fault of an empty text", x.fault(), NONE);
        is("lay of an empty text", x.lay(), NO);
        is("wipe of an empty text", x.wipe(), 0);
        is("words", x.count(1), 0);
        is("eyes", x.count(2), 0);
        is("undo", x.undo(), NO);
        is("back", x.back(), NO);
    }

    private static void twoHundredLettersAtMost() {
        DUE.says("A TEXT is letters (200 at most)");
        HayFootStraw x = new HayFootStraw();
        for (int k = 1; k <= 200; k++) {
            is("letter " + k, x.write('z'), k);
        }
        is("letter 201", x.write('z'), FULL);
        is("letter 201 again", x.write(' '), FULL);
        is("letters", x.count(5), 200);
        is("wipe", x.wipe(), 200);
        is("a letter behind wipe", x.write('z'), 1);
    }

    private static void fullTextIsRead() {
        DUE.says("A TEXT is letters (200 at most), read to the last one");
        String full = MAN + "z0;".repeat(61) + "z00;z07;";
        is("letters", full.length(), 200);
        HayFootStraw x = written(full);
        is("fault", x.fault(), NONE);
        is("one letter more", x.write('x'), FULL);
        is("fault behind a letter that was refused", x.fault(), NONE);
        is("lay", x.lay(), 1);
        fault(full.substring(0, 199), 196);
        fault(full.substring(0, 196), NONE);
        fault("z00;".repeat(50), NONE);
        lay("z00;".repeat(50), NO);
        String manAtTheEnd = "z0;".repeat(61) + "z00;z07;" + MAN;
        fault(manAtTheEnd, NONE);
        lay(manAtTheEnd, 1);
        // The seed 7 stands in the last letters: man 0 draws 2 by it, and 0 by the seed 0.
        is("the last item counts", Due.laid("m1,0,0,2;" + "z0;".repeat(61) + "z00;z07;").word(0), 0);
    }

    private static void fullTextIsCutOff() {
        DUE.says("FAULT: the place of the first letter of the first ITEM, which the end of a full TEXT cuts off");
        String head = "z00;".repeat(49);
        fault(head + "m0,0", 196);
        fault(head + "z00,", 196);
        fault(head + "z000", 196);
        fault(head + "z0;z", 199);
        fault(head + "z0;;", 199);
        fault("z0;".repeat(63) + "m0,0,0,0,,,", 189);
        fault("z0;".repeat(63) + "m0,0,0,00,0", 189);
        // The ; would be the 201st letter, which is refused.
        String tooLong = "z0;".repeat(64) + MAN;
        is("letters", tooLong.length(), 201);
        fault(tooLong, 192);
        lay(tooLong, NO);
    }

    private static void lettersFrom32To126() {
        DUE.says("A letter (32 to 126, as in ASCII) comes behind THE TEXT: how long it is. BAD");
        HayFootStraw x = new HayFootStraw();
        int length = 0;
        for (int letter = -40; letter <= 300; letter++) {
            boolean isLetter = letter >= 32 && letter <= 126;
            if (isLetter) length++;
            is("write " + letter, x.write(letter), isLetter ? length : BAD);
        }
        is("letters", x.count(5), 95);
        // As a char or a byte these would be letters.
        for (int far : new int[] {65536 + 'z', 256 + 'z', 'z' - 256, 'z' - 65536, Integer.MIN_VALUE, Integer.MAX_VALUE}) {
            is("write " + far, x.write(far), BAD);
        }
        is("letters still", x.count(5), 95);
    }

    private static void wipedText() {
        DUE.says("THE TEXT is empty: how long it was");
        HayFootStraw x = written("m0,0,0,0;x");
        is("fault ahead", x.fault(), 9);
        is("wipe", x.wipe(), 10);
        is("fault behind", x.fault(), NONE);
        is("lay behind", x.lay(), NO);
        is("wipe again", x.wipe(), 0);
        is("write", x.write('e'), 1);
        is("only what was written since", x.fault(), 0);
        is("wipe of one letter", x.wipe(), 1);
    }

    /** All numbers of one and two figures, and of three, at one place of an ITEM. */
    private static void eachNumber(String sentence, String head, String tail, int high) {
        DUE.says(sentence + "; numbers (one or two figures)");
        for (int v = 0; v < 100; v++) {
            int want = v <= high ? NONE : 0;
            if (v < 10) fault(head + v + tail, want);
            fault(head + v / 10 + v % 10 + tail, want);
            fault(head + "0" + v / 10 + v % 10 + tail, 0);
            fault("z0;" + head + v + tail, v <= high ? NONE : 3);
        }
        fault(head + tail, 0);
        fault(head + "100" + tail, 0);
        fault(head + "256" + tail, 0);
        fault(head + "-1" + tail, 0);
        fault(head + "+1" + tail, 0);
        fault(head + " 1" + tail, 0);
        fault(head + "1 " + tail, 0);
    }

    private static void howManyNumbers() {
        DUE.says("mK,F,C,P; zS; eE;");
        fault("m;", 0);
        fault("m0;", 0);
        fault("m0,0;", 0);
        fault("m0,0,0;", 0);
        fault("m0,0,0,0;", NONE);
        fault("m0,0,0,0,0;", 0);
        fault("z;", 0);
        fault("z0;", NONE);
        fault("z0,0;", 0);
        fault("e;", 0);
        fault("e0;", NONE);
        fault("e0,0;", 0);
    }

    private static void marksBetweenNumbers() {
        DUE.says("numbers parted by , and a ; behind the last one");
        fault("m0,0,0,0", 0);
        fault("m0,0,0,0,", 0);
        fault("m0,0,0,0,;", 0);
        fault("m,0,0,0,0;", 0);
        fault("m0,,0,0,0;", 0);
        fault("m0;0;0;0;", 0);
        fault("m0.0.0.0;", 0);
        fault("m0,0,0,0:", 0);
        fault("m0,0,0,0;;", 9);
        fault("m0,0,0,0;,", 9);
        fault("m0,0,0,0; ", 9);
        fault(" m0,0,0,0;", 0);
        fault(";", 0);
        fault(",", 0);
        fault("0", 0);
    }

    /** Every letter at, and ahead of, every place of a text that has none of them in vain. */
    private static void eachOtherLetter() {
        DUE.says("FAULT: the place of the first letter of the first ITEM that is not so");
        String text = "z7;m3,3,7,10;e1;";
        for (int at = 0; at <= text.length(); at++) {
            for (char letter = 32; letter <= 126; letter++) {
                sameFault(text.substring(0, at) + letter + text.substring(at));
                if (at < text.length()) sameFault(text.substring(0, at) + letter + text.substring(at + 1));
            }
            sameFault(text.substring(0, at));
            if (at < text.length()) sameFault(text.substring(0, at) + text.substring(at + 1));
        }
    }

    private static void sameFault(String text) {
        Model m = new Model();
        for (char letter : text.toCharArray()) m.write(letter);
        fault(text, m.fault());
    }

    private static void eightMenAtMost() {
        DUE.says("8 at most, 0, 1, ..");
        for (int men = 1; men <= 8; men++) {
            String text = MAN.repeat(men);
            fault(text, NONE);
            lay(text, men);
            HayFootStraw x = Due.laid(text);
            is("count of " + men, x.count(0), men);
            is("the last of " + men, x.man(men - 1, 0), 0);
            is("one beyond " + men, x.man(men, 0), BAD);
        }
        fault(MAN.repeat(9), 72);
        lay(MAN.repeat(9), NO);
        fault(MAN.repeat(8) + "z1;e1;" + MAN, 78);
        fault(MAN.repeat(8) + "z1;e1;", NONE);
        fault(MAN.repeat(10), 72);
        HayFootStraw x = written(MAN.repeat(9));
        is("fault of nine", x.fault(), 72);
        is("fault of nine again", x.fault(), 72);
        Due.put(x, MAN.repeat(8));
        is("eight behind nine", x.lay(), 8);
        is("eight once more", x.lay(), 8);
    }

    private static void firstFaultOfSeveral() {
        DUE.says("the first letter of the first ITEM that is not so");
        fault("m4,0,0,0;m0,4,0,0;", 0);
        fault("m0,0,0,0;m0,4,0,0;m4,0,0,0;", 9);
        fault("z9;e2;m0,0,0,11;x", 3);
        fault("z9;e0;m0,0,0,11;e2;", 6);
        fault("z9;e1;m0,0,0,10;e1;x;", 19);
        DUE.says("LAID is a TEXT without FAULT: whom a MAN looks at is none, up to 7");
        fault("m0,0,7,0;", NONE);
        fault("m0,0,8,0;", 0);
    }

    private static void seedWithoutAndLast() {
        DUE.says("S (0 to 99; 0 without; the last one)");
        // Man 0 draws 0 by the seed 0, 9 by 8 and by 98 (as man 7), 1 by 2.
        is("without, P 1", Due.laid("m1,0,0,1;").word(0), 1);
        is("0, P 1", Due.laid("m1,0,0,1;z0;").word(0), 1);
        is("8, P 9", Due.laid("m1,0,0,9;z8;").word(0), 0);
        is("8 ahead of the man", Due.laid("z8;m1,0,0,9;").word(0), 0);
        is("the last is 8", Due.laid("z0;m1,0,0,9;z99;z8;").word(0), 0);
        is("the last is 0", Due.laid("z8;m1,0,0,9;z0;").word(0), 1);
        is("the last is 2, P 1", Due.laid("m1,0,0,1;z0;z2;").word(0), 0);
        is("the last is 2, P 2", Due.laid("m1,0,0,2;z0;z2;").word(0), 1);
        String sevenSure = "m0,0,0,0;".repeat(7);
        is("98, man 7, P 9", Due.laid(sevenSure + "m1,0,0,9;z98;").word(0), 0);
        is("99, man 7, P 1", Due.laid(sevenSure + "m1,0,0,1;z99;").word(0), 1);
        is("99, man 7, P 0", Due.laid(sevenSure + "m1,0,0,0;z99;").word(0), 0);
        HayFootStraw x = Due.laid("m1,0,0,1;z8;");
        x.lay();
        is("8, P 1", x.word(0), 0);
        Due.lay(x, "m1,0,0,1;");
        is("without, behind squads with one", x.word(0), 1);
    }

    private static void eyesWithoutAndLast() {
        DUE.says("EYES are open (0) or shut (1) at first (0 without; the last one)");
        is("without", Due.laid(MAN).count(2), 0);
        is("open", Due.laid(MAN + "e0;").count(2), 0);
        is("shut", Due.laid(MAN + "e1;").count(2), 1);
        is("shut ahead", Due.laid("e1;" + MAN).count(2), 1);
        is("the last is shut", Due.laid("e0;" + MAN + "e1;").count(2), 1);
        is("the last is open", Due.laid("e1;" + MAN + "e1;e0;").count(2), 0);
        HayFootStraw x = Due.laid(MAN + "e1;");
        Due.lay(x, MAN);
        is("without, behind a squad whose were shut", x.count(2), 0);
        x.eyes(1);
        x.lay();
        is("without, behind eyes", x.count(2), 0);
    }

    private static void noManNoSquad() {
        DUE.says("LAID is a TEXT of a MAN at least (NO else)");
        lay("", NO);
        lay("z1;", NO);
        lay("e1;", NO);
        lay("z1;e1;", NO);
        lay(MAN, 1);
        lay("z1;" + MAN + "e1;", 1);
    }

    private static void lookingAtMenThereAre() {
        DUE.says("LAID is a TEXT, all looking at MEN there are (NO else)");
        for (int men = 1; men <= 8; men++) {
            for (int kind = 0; kind < 4; kind++) {
                for (int c = 0; c < 8; c++) {
                    int want = c < men ? men : NO;
                    String looker = "m" + kind + ",0," + c + ",0;";
                    lay(looker + MAN.repeat(men - 1), want);
                    lay(MAN.repeat(men - 1) + looker, want);
                }
            }
        }
        lay("m2,0,1,0;m2,0,2,0;m2,0,3,0;", NO);
        lay("m2,0,1,0;m2,0,2,0;m2,0,2,0;", 3);
    }

    private static void refusedByAFault() {
        DUE.says("LAID is a TEXT without FAULT (NO else)");
        lay(MAN + "x", NO);
        lay("x" + MAN, NO);
        lay(MAN + "m0,0,0,0", NO);
        lay(MAN + ";", NO);
        lay(MAN + "z100;", NO);
        lay(MAN + "e2;", NO);
        lay("m4,0,0,0;", NO);
        HayFootStraw x = Due.laid("m1,2,0,7;z8;e1;");
        is("refused", Due.lay(x, "m0,3,1,1;m3,1,0,3;z9;e0;x"), NO);
        is("men as ahead", x.count(0), 1);
        is("kind as ahead", x.man(0, 0), 1);
        is("facing as ahead", x.man(0, 1), 2);
        is("looks as ahead", x.man(0, 2), 0);
        is("P as ahead", x.man(0, 3), 7);
        is("eyes as ahead", x.count(2), 1);
        is("seed as ahead: he draws 9", x.word(0), 0);
        is("the text stays", x.count(5), 25);
    }

    private static void layBeginsAnew() {
        DUE.says("LAID: how many MEN; no WORDS, nothing UNDONE, KEPT");
        HayFootStraw x = Due.laid("m3,1,0,0;m2,2,0,0;m1,3,2,10;");
        for (int k = 0; k < 9; k++) x.word(k % 3);
        x.shout(2);
        x.look(1, 2);
        x.keep();
        x.keep();
        is("lay again", x.lay(), 3);
        is("words", x.count(1), 0);
        is("can be undone", x.count(3), 0);
        is("kept", x.count(4), 0);
        is("letters", x.count(5), 28);
        is("undo", x.undo(), NO);
        is("back", x.back(), NO);
        for (int i = 0; i < 3; i++) {
            is("facing of " + i, x.man(i, 1), i + 1);
            is("due of " + i, x.man(i, 4), i + 1);
        }
        is("looks", x.man(1, 2), 0);
        for (int what = 0; what < 3; what++) is("who " + what, x.who(what), 0);
        is("LATE has no word ahead", x.turn(0, 1), 1);
        is("draws begin with number 0", x.word(0), 3);
        is("keep", x.keep(), 1);
    }
}
