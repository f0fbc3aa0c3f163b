import java.math.BigInteger;
import java.util.ArrayDeque;
import java.util.ArrayList;
import java.util.Deque;
import java.util.HashSet;
import java.util.List;
import java.util.Set;
import java.util.regex.Matcher;
import java.util.regex.Pattern;

/**
 * The document said over again in a slow and different way: what happened is kept as a list and
 * played from the start for each answer, rows of words are really said, chances are counted over
 * all ways to err.
 */
final class Model {

    private static final int BAD = -1, NO = -2, FULL = -3, NONE = -4;
    private static final Pattern MAN = Pattern.compile("m(\\d{1,2}),(\\d{1,2}),(\\d{1,2}),(\\d{1,2});");
    private static final Pattern OTHER = Pattern.compile("([ze])(\\d{1,2});");
    private static final int[] BY = {3, 1, 2};

    /** Something that happened: w a word, s a shout, e eyes, l a look. */
    private record Event(char kind, int a, int b) {}

    /** How a man who turns as UNSURE ones does at the word of this number. */
    private interface Errs {
        boolean at(int number, int man);
    }

    private static final class Then {
        int[] facing, looks;
        int shut;
        List<Integer> words = new ArrayList<>();
        Set<Integer> erred = new HashSet<>(), gone = new HashSet<>();
    }

    private String text = "";
    private List<int[]> men = new ArrayList<>();
    private int seed, shutAtFirst;
    private List<Event> events = new ArrayList<>();
    private int undoable;
    private final Deque<List<Event>> kept = new ArrayDeque<>();

    Model() {
        text = "m0,0,0,0;m1,0,0,10;m2,0,1,0;m2,0,2,3;m3,0,0,0;m1,0,5,5;m2,0,3,6;z4;";
        lay();
        text = "";
    }

    // ---- squads

    int write(int letter) {
        if (letter < 32 || letter > 126) return BAD;
        if (text.length() == 200) return FULL;
        text += (char) letter;
        return text.length();
    }

    int wipe() {
        int n = text.length();
        text = "";
        return n;
    }

    int fault() {
        return read(new ArrayList<>(), new int[2]);
    }

    private int read(List<int[]> into, int[] seedAndEyes) {
        int at = 0;
        while (at < text.length()) {
            Matcher m = MAN.matcher(text).region(at, text.length());
            Matcher o = OTHER.matcher(text).region(at, text.length());
            if (m.lookingAt()) {
                int[] four = new int[4];
                for (int k = 0; k < 4; k++) four[k] = Integer.parseInt(m.group(k + 1));
                if (four[0] > 3 || four[1] > 3 || four[2] > 7 || four[3] > 10) return at;
                if (into.size() == 8) return at;
                into.add(four);
                at = m.end();
            } else if (o.lookingAt()) {
                int v = Integer.parseInt(o.group(2));
                if (o.group(1).equals("e")) {
                    if (v > 1) return at;
                    seedAndEyes[1] = v;
                } else {
                    seedAndEyes[0] = v;
                }
                at = o.end();
            } else {
                return at;
            }
        }
        return NONE;
    }

    int lay() {
        List<int[]> into = new ArrayList<>();
        int[] more = new int[2];
        if (read(into, more) != NONE || into.isEmpty()) return NO;
        for (int[] m : into) if (m[2] >= into.size()) return NO;
        men = into;
        seed = more[0];
        shutAtFirst = more[1];
        events = new ArrayList<>();
        undoable = 0;
        kept.clear();
        return men.size();
    }

    int man(int i, int what) {
        if (!there(i) || what < 0 || what > 4) return BAD;
        Then t = play();
        return new int[] {men.get(i)[0], t.facing[i], t.looks[i], men.get(i)[3], due(t, i)}[what];
    }

    // ---- playing

    private boolean there(int i) {
        return i >= 0 && i < men.size();
    }

    private static boolean in(int v, int low, int high) {
        return low <= v && v <= high;
    }

    private Then play() {
        Then t = new Then();
        t.facing = men.stream().mapToInt(m -> m[1]).toArray();
        t.looks = men.stream().mapToInt(m -> m[2]).toArray();
        t.shut = shutAtFirst;
        for (Event e : events) {
            switch (e.kind) {
                case 'w' -> say(t, e.a, this::errsByDraw);
                case 's' -> shoutAt(t, e.a);
                case 'e' -> t.shut = e.a;
                default -> t.looks[e.a] = e.b;
            }
        }
        return t;
    }

    private boolean errsByDraw(int number, int man) {
        BigInteger x = BigInteger.valueOf(7919L * seed + 6151L * number + 3571L * man + 1);
        int rest = x.multiply(x).mod(BigInteger.valueOf(65521)).intValue();
        return (rest / 8) % 10 < men.get(man)[3];
    }

    private boolean errsForeseen(int number, int man) {
        return men.get(man)[3] >= 5;
    }

    private boolean comesRound(Then t, int i) {
        Set<Integer> seen = new HashSet<>();
        int at = i;
        while (men.get(at)[0] == 2) {
            if (!seen.add(at)) return true;
            at = t.looks[at];
        }
        return false;
    }

    private int turned(Then t, int i, int w, Errs errs) {
        int kind = men.get(i)[0];
        if (kind == 0) return BY[w];
        if (kind == 3) return t.words.isEmpty() ? 0 : BY[t.words.get(t.words.size() - 1)];
        if (kind == 2 && t.shut == 0 && !comesRound(t, i)) return turned(t, t.looks[i], w, errs);
        if (w == 2) return 2;
        return BY[errs.at(t.words.size(), i) ? 1 - w : w];
    }

    private void say(Then t, int w, Errs errs) {
        int[] by = new int[men.size()];
        for (int i = 0; i < by.length; i++) by[i] = turned(t, i, w, errs);
        for (int i = 0; i < by.length; i++) {
            t.facing[i] = (t.facing[i] + by[i]) % 4;
            if (by[i] != BY[w]) t.erred.add(i);
        }
        t.words.add(w);
    }

    private int shoutAt(Then t, int i) {
        Set<Integer> go = new HashSet<>();
        go.add(i);
        for (int times = 0; times < 8 && t.shut == 0; times++) {
            for (int j = 0; j < men.size(); j++) {
                if (men.get(j)[0] == 2 && go.contains(t.looks[j]) && !comesRound(t, j)) go.add(j);
            }
        }
        for (int j : go) t.facing[j] = (t.facing[j] + 2) % 4;
        t.gone.addAll(go);
        return go.size();
    }

    private int due(Then t, int i) {
        int f = men.get(i)[1];
        for (int w : t.words) f += BY[w];
        return f % 4;
    }

    private int wrong(Then t) {
        int bits = 0;
        for (int i = 0; i < men.size(); i++) if (due(t, i) != t.facing[i]) bits += 1 << i;
        return bits;
    }

    private boolean oneWay(Then t) {
        return java.util.Arrays.stream(t.facing).distinct().count() == 1;
    }

    // ---- words

    private void happen(char kind, int a, int b) {
        events.add(new Event(kind, a, b));
        undoable = Math.min(8, undoable + 1);
    }

    int word(int w) {
        if (!in(w, 0, 2)) return BAD;
        if (play().words.size() == 999) return NO;
        happen('w', w, 0);
        return Integer.bitCount(wrong(play()));
    }

    int shout(int i) {
        if (!there(i)) return BAD;
        int gone = shoutAt(play(), i);
        happen('s', i, 0);
        return gone;
    }

    int eyes(int shut) {
        if (!in(shut, 0, 1)) return BAD;
        int before = play().shut;
        happen('e', shut, 0);
        return before;
    }

    int look(int i, int c) {
        if (!there(i) || !there(c)) return BAD;
        int before = play().looks[i];
        happen('l', i, c);
        return before;
    }

    int undo() {
        if (undoable == 0) return NO;
        events.remove(events.size() - 1);
        return --undoable;
    }

    // ---- how they stand

    int who(int what) {
        if (!in(what, 0, 2)) return BAD;
        Then t = play();
        int bits = 0;
        for (int i = 0; i < men.size(); i++) {
            boolean wrong = t.facing[i] != due(t, i);
            boolean erred = t.erred.contains(i);
            boolean is = what == 0 ? wrong : what == 2 ? erred : !wrong && (erred || t.gone.contains(i));
            if (is) bits += 1 << i;
        }
        return bits;
    }

    private int followed(Then t, int i) {
        if (comesRound(t, i)) return NONE;
        return men.get(i)[0] == 2 ? followed(t, t.looks[i]) : i;
    }

    int follows(int i) {
        if (!there(i)) return BAD;
        Then t = play();
        return t.shut == 1 ? i : followed(t, i);
    }

    int runs(int i) {
        if (!there(i)) return BAD;
        Then t = play();
        int n = 0;
        for (int j = 0; j < men.size(); j++) if (j != i && followed(t, j) == i) n++;
        return n;
    }

    int most(int what) {
        if (!in(what, 0, 1)) return BAD;
        int[] facing = play().facing;
        int[] n = new int[4];
        for (int f : facing) n[f]++;
        int most = java.util.Arrays.stream(n).max().getAsInt();
        for (int f = 0; f < 4; f++) if (n[f] == most) return what == 0 ? f : most;
        throw new IllegalStateException();
    }

    int groups(int what) {
        if (!in(what, 0, 1)) return BAD;
        StringBuilder row = new StringBuilder();
        for (int f : play().facing) row.append(f);
        Matcher m = Pattern.compile("(\\d)\\1*").matcher(row);
        int n = 0, longest = 0;
        while (m.find()) {
            n++;
            longest = Math.max(longest, m.group().length());
        }
        return what == 0 ? n : longest;
    }

    // ---- foreseen

    /** All rows of n words, in the document's order. */
    private static List<List<Integer>> rows(int n) {
        List<List<Integer>> all = new ArrayList<>();
        if (n == 0) {
            all.add(List.of());
            return all;
        }
        for (List<Integer> head : rows(n - 1)) {
            for (int w = 0; w < 3; w++) {
                List<Integer> row = new ArrayList<>(head);
                row.add(w);
                all.add(row);
            }
        }
        return all;
    }

    private boolean foreseenOneWay(List<Integer> row) {
        Then t = play();
        for (int w : row) say(t, w, this::errsForeseen);
        return oneWay(t);
    }

    int plan(int k) {
        if (!in(k, -1, 4)) return BAD;
        for (int n = 0; n <= 5; n++) {
            for (List<Integer> row : rows(n)) {
                if (foreseenOneWay(row)) return k == -1 ? n : k < n ? row.get(k) : NONE;
            }
        }
        return NONE;
    }

    int numbers(int n) {
        if (!in(n, 1, 5)) return BAD;
        return (int) rows(n).stream().filter(this::foreseenOneWay).count();
    }

    int turn(int i, int w) {
        if (!there(i) || !in(w, 0, 2)) return BAD;
        Then t = play();
        say(t, w, this::errsForeseen);
        return t.facing[i];
    }

    int which(int i, int f) {
        if (!there(i) || !in(f, 0, 3)) return BAD;
        int bits = 0;
        for (int w = 0; w < 3; w++) if (turn(i, w) == f) bits += 1 << w;
        return bits;
    }

    /** Of all 10 to the power of men, by sets of those who err. */
    private int chance(int w, int man, int part) {
        BigInteger above = BigInteger.ZERO;
        BigInteger below = BigInteger.TEN.pow(men.size());
        for (int set = 0; set < 1 << men.size(); set++) {
            BigInteger ways = BigInteger.ONE;
            for (int i = 0; i < men.size(); i++) {
                int p = men.get(i)[3];
                ways = ways.multiply(BigInteger.valueOf((set >> i & 1) == 1 ? p : 10 - p));
            }
            if (ways.signum() == 0) continue;
            Then t = play();
            int errers = set;
            say(t, w, (number, i) -> (errers >> i & 1) == 1);
            boolean is = man < 0 ? oneWay(t) : t.facing[man] == due(t, man);
            if (is) above = above.add(ways);
        }
        BigInteger common = above.gcd(below);
        return (part == 0 ? above : below).divide(common).intValueExact();
    }

    int alike(int w, int part) {
        return in(w, 0, 2) && in(part, 0, 1) ? chance(w, -1, part) : BAD;
    }

    int right(int i, int w, int part) {
        return there(i) && in(w, 0, 2) && in(part, 0, 1) ? chance(w, i, part) : BAD;
    }

    int safe(int i) {
        if (!there(i)) return BAD;
        int[] his = men.get(i);
        int kind = his[0];
        int answer = NONE;
        his[0] = 2;
        for (int c = 0; c < men.size() && answer == NONE; c++) {
            Then t = new Then();
            t.looks = play().looks;
            t.looks[i] = c;
            int end = followed(t, i);
            if (c != i && end != NONE && men.get(end)[0] == 0) answer = c;
        }
        his[0] = kind;
        return answer;
    }

    int drill(int z, int n, int what) {
        if (!in(z, 0, 9999) || !in(n, 1, 60) || !in(what, 0, 1)) return BAD;
        Then t = play();
        int alike = 0;
        for (int j = 0; j < n; j++) {
            BigInteger x = BigInteger.valueOf(7919L * z + 6151L * j + 1);
            int draw = x.multiply(x).mod(BigInteger.valueOf(65521)).intValue() / 8;
            say(t, draw % 3, this::errsByDraw);
            if (oneWay(t)) alike++;
        }
        return what == 0 ? Integer.bitCount(wrong(t)) : alike;
    }

    // ---- kept

    int keep() {
        if (kept.size() == 2) return FULL;
        kept.push(new ArrayList<>(events));
        return kept.size();
    }

    int back() {
        if (kept.isEmpty()) return NO;
        events = kept.pop();
        undoable = 0;
        return kept.size();
    }

    int count(int what) {
        if (!in(what, 0, 5)) return BAD;
        Then t = play();
        return new int[] {men.size(), t.words.size(), t.shut, undoable, kept.size(), text.length()}[what];
    }
}
