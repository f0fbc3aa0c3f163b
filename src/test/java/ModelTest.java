import java.util.Random;

/** Runs of drawn calls, each answer held against the model's. */
public final class ModelTest {

    private static final int RUNS = 500;

    private final Due due = new Due();
    private final Random random;
    private final HayFootStraw x = new HayFootStraw();
    private final Model m = new Model();
    private int calls;

    private ModelTest(long seed) {
        random = new Random(seed);
    }

    public static void main(String[] args) {
        Due all = new Due();
        int asked = 0;
        for (int run = 0; run < RUNS; run++) {
            ModelTest test = new ModelTest(run);
            String wrong = test.run();
            all.isTrue("run " + run + ": " + wrong, wrong == null);
            asked += test.calls;
        }
        System.out.println(asked + " calls held against the model");
        all.end();
    }

    private String run() {
        // A new text is some 100 calls, and nothing is promised behind the 512th one.
        while (calls < 400) {
            String wrong = random.nextInt(40) == 0 ? newText() : oneCall();
            if (wrong != null) return wrong;
        }
        return null;
    }

    private int pick(int low, int high) {
        return low + random.nextInt(high - low + 1);
    }

    private String same(String call, int got, int want) {
        calls++;
        return got == want ? null : "call " + calls + ", " + call + " answered " + got + ", due is " + want;
    }

    private String newText() {
        String text = drawnText();
        String wrong = same("wipe()", x.wipe(), m.wipe());
        for (int k = 0; k < text.length() && wrong == null; k++) {
            int c = text.charAt(k);
            wrong = same("write(" + c + ")", x.write(c), m.write(c));
        }
        if (wrong == null) wrong = same("fault() of " + text, x.fault(), m.fault());
        return wrong != null ? wrong : same("lay() of " + text, x.lay(), m.lay());
    }

    private String drawnText() {
        StringBuilder text = new StringBuilder();
        int men = pick(1, random.nextInt(12) == 0 ? 9 : 8);
        int sameFacing = random.nextInt(3) == 0 ? pick(0, 3) : -1;
        for (int i = 0; i < men; i++) {
            int kind = random.nextInt(3) == 0 ? 2 : pick(0, 3);
            int facing = sameFacing < 0 ? pick(0, 3) : sameFacing;
            int looks = random.nextInt(40) == 0 ? pick(0, 7) : pick(0, men - 1);
            text.append('m').append(kind).append(',').append(facing).append(',');
            text.append(looks).append(',').append(pick(0, 10)).append(';');
        }
        if (random.nextBoolean()) text.append('z').append(pick(0, 99)).append(';');
        if (random.nextInt(3) == 0) text.append('e').append(pick(0, 1)).append(';');
        if (random.nextInt(4) == 0) spoil(text);
        return text.toString();
    }

    private void spoil(StringBuilder text) {
        String signs = "mze,;0123456789 ";
        int at = random.nextInt(text.length());
        char sign = signs.charAt(random.nextInt(signs.length()));
        switch (random.nextInt(3)) {
            case 0 -> text.setCharAt(at, sign);
            case 1 -> text.insert(at, sign);
            default -> text.deleteCharAt(at);
        }
    }

    private int index() {
        int men = m.count(0);
        return random.nextInt(30) == 0 ? pick(-2, 9) : pick(0, men - 1);
    }

    private int choice(int high) {
        return random.nextInt(30) == 0 ? pick(-2, high + 2) : pick(0, high);
    }

    private String oneCall() {
        int i = index(), c = index(), w = choice(2), f = choice(3), part = choice(1);
        switch (random.nextInt(27)) {
            case 0: return same("man(" + i + ", " + f + ")", x.man(i, f), m.man(i, f));
            case 1: return same("man(" + i + ", 4)", x.man(i, 4), m.man(i, 4));
            case 2: case 3: case 4: return same("word(" + w + ")", x.word(w), m.word(w));
            case 5: return same("shout(" + i + ")", x.shout(i), m.shout(i));
            case 6: return same("eyes(" + part + ")", x.eyes(part), m.eyes(part));
            case 7: return same("look(" + i + ", " + c + ")", x.look(i, c), m.look(i, c));
            case 8: case 9: return same("undo()", x.undo(), m.undo());
            case 10: case 11: return same("who(" + w + ")", x.who(w), m.who(w));
            case 12: return same("follows(" + i + ")", x.follows(i), m.follows(i));
            case 13: return same("runs(" + i + ")", x.runs(i), m.runs(i));
            case 14: return same("most(" + part + ")", x.most(part), m.most(part));
            case 15: return same("groups(" + part + ")", x.groups(part), m.groups(part));
            case 16:
                int k = choice(5) - 1;
                return same("plan(" + k + ")", x.plan(k), m.plan(k));
            case 17: return same("turn(" + i + ", " + w + ")", x.turn(i, w), m.turn(i, w));
            case 18: return same("alike(" + w + ", " + part + ")", x.alike(w, part), m.alike(w, part));
            case 19:
                return same("right(" + i + ", " + w + ", " + part + ")", x.right(i, w, part), m.right(i, w, part));
            case 20: return same("which(" + i + ", " + f + ")", x.which(i, f), m.which(i, f));
            case 21: return same("safe(" + i + ")", x.safe(i), m.safe(i));
            case 22:
                int n = choice(4) + 1;
                return same("numbers(" + n + ")", x.numbers(n), m.numbers(n));
            case 23:
                int z = choice(9999), many = choice(59) + 1;
                String call = "drill(" + z + ", " + many + ", " + part + ")";
                return same(call, x.drill(z, many, part), m.drill(z, many, part));
            case 24: return same("keep()", x.keep(), m.keep());
            case 25: return same("back()", x.back(), m.back());
            default:
                int what = choice(5);
                return same("count(" + what + ")", x.count(what), m.count(what));
        }
    }
}
