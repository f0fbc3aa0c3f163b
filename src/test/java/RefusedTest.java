import java.util.ArrayList;
import java.util.List;
import java.util.function.Consumer;
import java.util.function.ToIntFunction;

/**
 * "Nothing changes then": two objects with the same past, of which one is asked what is refused
 * (or only looked at), answer alike ever after, by whatever is done with them.
 */
public final class RefusedTest {

    private static final int BAD = -1, NO = -2, FULL = -3;
    private static final int[] FAR = {Integer.MIN_VALUE, -2, 10000, Integer.MAX_VALUE};

    private static final Due DUE = new Due();

    /** A call, and what is due if it is known. */
    private record Call(String name, ToIntFunction<HayFootStraw> ask, Integer due) {}

    /** A past, and the calls that are refused behind it beside those that always are. */
    private record Past(String name, Consumer<HayFootStraw> live, List<Call> refused) {}

    private RefusedTest() {}

    public static void main(String[] args) {
        DUE.says("nothing changes then");
        for (Past past : pasts()) {
            List<Call> calls = new ArrayList<>(past.refused());
            int men = lived(past).count(0);
            calls.addAll(badMen(men));
            calls.addAll(badOthers());
            calls.addAll(looks(men));
            for (Call call : calls) nothingChanges(past, call);
        }
        DUE.end();
    }

    private static HayFootStraw lived(Past past) {
        HayFootStraw x = new HayFootStraw();
        past.live().accept(x);
        return x;
    }

    // ---- pasts

    private static List<Past> pasts() {
        String squad = "m0,0,0,3;m1,1,0,6;m2,2,1,5;m3,3,0,4;m2,0,5,7;m2,1,4,2;m2,2,3,1;m1,3,7,9;z31;";
        Call undo = new Call("undo()", HayFootStraw::undo, NO);
        Call back = new Call("back()", HayFootStraw::back, NO);
        Call keep = new Call("keep()", HayFootStraw::keep, FULL);
        Call lay = new Call("lay()", HayFootStraw::lay, NO);
        Call write = new Call("write('m')", x -> x.write('m'), FULL);
        return List.of(
                new Past("new", x -> { }, List.of(undo, back, lay)),
                new Past("laid", x -> Due.lay(x, squad), List.of(undo, back)),
                new Past("one man", x -> Due.lay(x, "m2,3,0,5;e1;"), List.of(undo, back)),
                new Past("full", x -> full(x, squad, "m0,3,0,0;m1,2,0,4"), List.of(keep, lay)),
                new Past("full, no man", x -> full(x, squad, "z7;e1;"), List.of(keep, lay)),
                new Past("full, looks beyond", x -> full(x, squad, "z7;m0,3,1,0;"), List.of(keep, lay)),
                new Past("full, empty text", x -> full(x, squad, ""), List.of(keep, lay)),
                new Past("full, another squad", x -> full(x, squad, "m3,3,1,9;m1,2,1,4;e1;"), List.of(keep)),
                new Past("back", x -> broughtBack(x, squad), List.of(undo)),
                new Past("nothing kept", x -> nothingKept(x, squad), List.of(back)),
                new Past("full text", x -> Due.put(x, "m0,3,0,0;" + "z00;".repeat(47) + "z1;"), List.of(undo, back, write)),
                new Past("full text with a fault", x -> Due.put(x, "m0,3,0,0;" + "z".repeat(191)), List.of(lay, write)));
    }

    /** Ten things done, two squads kept, and a text. */
    private static void full(HayFootStraw x, String squad, String text) {
        Due.lay(x, squad);
        x.word(0);
        x.shout(1);
        x.keep();
        x.word(1);
        x.look(6, 2);
        x.word(0);
        x.eyes(1);
        x.keep();
        x.word(2);
        x.eyes(0);
        x.word(1);
        x.shout(3);
        Due.put(x, text);
    }

    private static void broughtBack(HayFootStraw x, String squad) {
        full(x, squad, squad);
        x.back();
    }

    private static void nothingKept(HayFootStraw x, String squad) {
        Due.lay(x, squad);
        for (int k = 0; k < 9; k++) x.word(k * k % 3);
        x.look(1, 7);
    }

    // ---- calls

    private static List<Integer> beyond(int low, int high) {
        List<Integer> numbers = new ArrayList<>(List.of(low - 1, high + 1));
        for (int far : FAR) numbers.add(far);
        return numbers;
    }

    private static void bad(List<Call> calls, String name, ToIntFunction<HayFootStraw> ask) {
        calls.add(new Call(name, ask, BAD));
    }

    private static List<Call> badMen(int men) {
        List<Call> calls = new ArrayList<>();
        for (int i : beyond(0, men - 1)) {
            bad(calls, "man(" + i + ", 1)", x -> x.man(i, 1));
            bad(calls, "shout(" + i + ")", x -> x.shout(i));
            bad(calls, "look(" + i + ", 0)", x -> x.look(i, 0));
            bad(calls, "look(0, " + i + ")", x -> x.look(0, i));
            bad(calls, "follows(" + i + ")", x -> x.follows(i));
            bad(calls, "runs(" + i + ")", x -> x.runs(i));
            bad(calls, "turn(" + i + ", 1)", x -> x.turn(i, 1));
            bad(calls, "right(" + i + ", 1, 0)", x -> x.right(i, 1, 0));
            bad(calls, "which(" + i + ", 1)", x -> x.which(i, 1));
            bad(calls, "safe(" + i + ")", x -> x.safe(i));
        }
        return calls;
    }

    private static List<Call> badOthers() {
        List<Call> calls = new ArrayList<>();
        for (int letter : beyond(32, 126)) bad(calls, "write(" + letter + ")", x -> x.write(letter));
        for (int what : beyond(0, 4)) bad(calls, "man(0, " + what + ")", x -> x.man(0, what));
        for (int w : beyond(0, 2)) {
            bad(calls, "word(" + w + ")", x -> x.word(w));
            bad(calls, "turn(0, " + w + ")", x -> x.turn(0, w));
            bad(calls, "alike(" + w + ", 0)", x -> x.alike(w, 0));
            bad(calls, "right(0, " + w + ", 0)", x -> x.right(0, w, 0));
            bad(calls, "who(" + w + ")", x -> x.who(w));
        }
        for (int part : beyond(0, 1)) {
            bad(calls, "eyes(" + part + ")", x -> x.eyes(part));
            bad(calls, "most(" + part + ")", x -> x.most(part));
            bad(calls, "groups(" + part + ")", x -> x.groups(part));
            bad(calls, "alike(0, " + part + ")", x -> x.alike(0, part));
            bad(calls, "right(0, 0, " + part + ")", x -> x.right(0, 0, part));
            bad(calls, "drill(0, 1, " + part + ")", x -> x.drill(0, 1, part));
        }
        for (int f : beyond(0, 3)) bad(calls, "which(0, " + f + ")", x -> x.which(0, f));
        for (int k : beyond(-1, 4)) bad(calls, "plan(" + k + ")", x -> x.plan(k));
        for (int n : beyond(1, 5)) bad(calls, "numbers(" + n + ")", x -> x.numbers(n));
        for (int z : beyond(0, 9999)) bad(calls, "drill(" + z + ", 1, 0)", x -> x.drill(z, 1, 0));
        for (int n : beyond(1, 60)) bad(calls, "drill(0, " + n + ", 0)", x -> x.drill(0, n, 0));
        for (int what : beyond(0, 5)) bad(calls, "count(" + what + ")", x -> x.count(what));
        return calls;
    }

    private static void look(List<Call> calls, String name, ToIntFunction<HayFootStraw> ask) {
        calls.add(new Call(name, ask, null));
    }

    /** Calls that only look, or foresee. */
    private static List<Call> looks(int men) {
        List<Call> calls = new ArrayList<>();
        int last = men - 1;
        look(calls, "fault()", HayFootStraw::fault);
        for (int what = 0; what < 5; what++) {
            int w = what;
            look(calls, "man(last, " + w + ")", x -> x.man(last, w));
            look(calls, "count(" + w + ")", x -> x.count(w));
            look(calls, "plan(" + w + ")", x -> x.plan(w));
            look(calls, "numbers(" + (w + 1) + ")", x -> x.numbers(w + 1));
        }
        for (int what = 0; what < 3; what++) {
            int w = what;
            look(calls, "who(" + w + ")", x -> x.who(w));
            look(calls, "turn(last, " + w + ")", x -> x.turn(last, w));
            look(calls, "alike(" + w + ", 0)", x -> x.alike(w, 0));
            look(calls, "right(last, " + w + ", 1)", x -> x.right(last, w, 1));
            look(calls, "which(last, " + w + ")", x -> x.which(last, w));
        }
        for (int what = 0; what < 2; what++) {
            int w = what;
            look(calls, "most(" + w + ")", x -> x.most(w));
            look(calls, "groups(" + w + ")", x -> x.groups(w));
            look(calls, "drill(77, 60, " + w + ")", x -> x.drill(77, 60, w));
        }
        look(calls, "follows(last)", x -> x.follows(last));
        look(calls, "runs(last)", x -> x.runs(last));
        look(calls, "safe(last)", x -> x.safe(last));
        look(calls, "count(5)", x -> x.count(5));
        return calls;
    }

    // ---- what is held against one another

    private static void nothingChanges(Past past, Call call) {
        later(past, call, "seen", RefusedTest::see);
        later(past, call, "undone", RefusedTest::undoAll);
        later(past, call, "brought back", RefusedTest::bringAllBack);
        later(past, call, "laid", RefusedTest::layText);
        later(past, call, "written on", RefusedTest::writeOn);
    }

    private interface Later {
        void gather(HayFootStraw x, List<Integer> answers);
    }

    private static void later(Past past, Call call, String how, Later later) {
        HayFootStraw one = lived(past);
        HayFootStraw other = lived(past);
        int got = call.ask().applyAsInt(one);
        if (call.due() != null) DUE.is(past.name() + ": " + call.name(), got, call.due());
        List<Integer> answers = new ArrayList<>();
        List<Integer> due = new ArrayList<>();
        later.gather(one, answers);
        later.gather(other, due);
        DUE.isTrue(past.name() + ": " + call.name() + " changes nothing, " + how, answers.equals(due));
    }

    private static void see(HayFootStraw x, List<Integer> answers) {
        seeShortly(x, answers);
        for (int i = 0; i < 8; i++) {
            answers.add(x.follows(i));
            answers.add(x.runs(i));
            answers.add(x.safe(i));
            for (int w = 0; w < 3; w++) {
                answers.add(x.turn(i, w));
                answers.add(x.right(i, w, 0));
            }
        }
        for (int k = -1; k < 5; k++) answers.add(x.plan(k));
        for (int n = 1; n <= 5; n++) answers.add(x.numbers(n));
        for (int w = 0; w < 3; w++) answers.add(x.alike(w, 0));
        for (int w = 0; w < 3; w++) answers.add(x.word(w));
        seeShortly(x, answers);
    }

    private static void seeShortly(HayFootStraw x, List<Integer> answers) {
        for (int what = 0; what < 6; what++) answers.add(x.count(what));
        for (int what = 0; what < 3; what++) answers.add(x.who(what));
        for (int i = 0; i < 8; i++) {
            for (int what = 0; what < 5; what++) answers.add(x.man(i, what));
        }
        answers.add(x.turn(3, 0));
        answers.add(x.drill(5, 60, 0));
        answers.add(x.drill(5, 60, 1));
    }

    private static void undoAll(HayFootStraw x, List<Integer> answers) {
        for (int k = 0; k < 9; k++) {
            answers.add(x.undo());
            seeBriefly(x, answers);
        }
    }

    private static void bringAllBack(HayFootStraw x, List<Integer> answers) {
        for (int k = 0; k < 3; k++) {
            answers.add(x.back());
            seeShortly(x, answers);
            answers.add(x.undo());
        }
    }

    private static void layText(HayFootStraw x, List<Integer> answers) {
        answers.add(x.fault());
        answers.add(x.lay());
        seeShortly(x, answers);
        answers.add(x.wipe());
    }

    private static void writeOn(HayFootStraw x, List<Integer> answers) {
        for (char letter : "m2,1,0,5;".toCharArray()) answers.add(x.write(letter));
        answers.add(x.fault());
        answers.add(x.lay());
        seeShortly(x, answers);
        answers.add(x.keep());
        answers.add(x.keep());
        answers.add(x.keep());
    }

    private static void seeBriefly(HayFootStraw x, List<Integer> answers) {
        for (int what = 0; what < 5; what++) answers.add(x.count(what));
        for (int what = 0; what < 3; what++) answers.add(x.who(what));
        for (int i = 0; i < 8; i++) {
            answers.add(x.man(i, 1));
            answers.add(x.man(i, 2));
            answers.add(x.man(i, 4));
        }
        answers.add(x.turn(3, 0));
        answers.add(x.drill(5, 60, 0));
    }
}
