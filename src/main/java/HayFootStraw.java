/**
 * Recruits in a row who turn by words, some of them wrongly. What each call answers is told by
 * DOC.md, whose terms stand here in capitals as they do there.
 */
public final class HayFootStraw {

    public static final int BAD = -1, NO = -2, FULL = -3, NONE = -4;

    private static final String FIRST_SQUAD =
            "m0,0,0,0;m1,0,0,10;m2,0,1,0;m2,0,2,3;m3,0,0,0;m1,0,5,5;m2,0,3,6;z4;";

    private static final int MOST_LETTERS = 200;
    private static final int MOST_MEN = 8;
    private static final int MOST_NUMBERS = 4;
    private static final int MOST_WORDS = 999;
    private static final int MOST_UNDONE = 8;
    private static final int MOST_KEPT = 2;
    private static final int MOST_PLANNED = 5;
    private static final int MOST_DRILLED = 60;
    private static final int LAST_DRILL = 9999;

    private static final int SURE = 0;
    private static final int UNSURE = 1;
    private static final int LOOKING = 2;
    private static final int LATE = 3;

    private static final int FACINGS = 4;
    private static final int WORDS = 3;
    private static final int ABOUT = 2;
    private static final int TEN = 10;
    private static final int FORESEEN_ERROR = 5;

    /** How far LEFT, RIGHT and ABOUT turn a man. */
    private static final int[] TURNS = {3, 1, 2};
    /** How many rows of 0, 1, .. WORDS there are. */
    private static final int[] ROWS = {1, 3, 9, 27, 81, 243};

    /** The manners in which a man turns at a word. */
    private static final int AS_TOLD = 0;
    private static final int ASTRAY = 1;
    private static final int BEHIND = 2;
    private static final int MANNERS = 3;

    private final Script script = new Script();
    private Squad squad = new Squad();
    private Squad draft = new Squad();
    private final Standing now = new Standing();
    private final Standing trial = new Standing();
    private final Pile undoable = new Pile(MOST_UNDONE);
    private final Pile kept = new Pile(MOST_KEPT);

    /** Rows that single calls fill anew, made once because what a run makes is counted. */
    private final int[] leader = new int[MOST_MEN];
    private final int[] manner = new int[MOST_MEN];
    private final int[] rowTurn = new int[MANNERS];

    public HayFootStraw() {
        for (int k = 0; k < FIRST_SQUAD.length(); k++) {
            script.add(FIRST_SQUAD.charAt(k));
        }
        layScript();
        script.clear();
    }

    // ---- squads

    public int write(int letter) {
        if (letter < 32 || letter > 126) {
            return BAD;
        }
        return script.add((char) letter) ? script.length : FULL;
    }

    public int wipe() {
        int length = script.length;
        script.clear();
        return length;
    }

    public int fault() {
        return script.readInto(draft);
    }

    public int lay() {
        return layScript() ? squad.men : NO;
    }

    public int man(int i, int what) {
        if (!isMan(i)) {
            return BAD;
        }
        switch (what) {
            case 0:
                return squad.kind[i];
            case 1:
                return now.facing[i];
            case 2:
                return now.looksAt[i];
            case 3:
                return squad.erring[i];
            case 4:
                return dueFacing(now, i);
            default:
                return BAD;
        }
    }

    // ---- words

    public int word(int w) {
        if (!isWord(w)) {
            return BAD;
        }
        if (now.words >= MOST_WORDS) {
            return NO;
        }
        undoable.put(now);
        findLeaders();
        say(now, w);
        return Integer.bitCount(wrongMen(now));
    }

    public int shout(int i) {
        if (!isMan(i)) {
            return BAD;
        }
        undoable.put(now);
        int gone = 0;
        for (int j = 0; j < squad.men; j++) {
            if (j == i || heeds(j, i)) {
                now.facing[j] = (now.facing[j] + ABOUT) % FACINGS;
                gone |= 1 << j;
            }
        }
        now.shouted |= gone;
        return Integer.bitCount(gone);
    }

    public int eyes(int shut) {
        if (!isEither(shut)) {
            return BAD;
        }
        undoable.put(now);
        int before = now.shut;
        now.shut = shut;
        return before;
    }

    public int look(int i, int c) {
        if (!isMan(i) || !isMan(c)) {
            return BAD;
        }
        undoable.put(now);
        int before = now.looksAt[i];
        now.looksAt[i] = c;
        return before;
    }

    public int undo() {
        return undoable.takeTop(now) ? undoable.size : NO;
    }

    // ---- how they stand

    public int who(int what) {
        switch (what) {
            case 0:
                return wrongMen(now);
            case 1:
                return (now.erred | now.shouted) & ~wrongMen(now);
            case 2:
                return now.erred;
            default:
                return BAD;
        }
    }

    public int follows(int i) {
        if (!isMan(i)) {
            return BAD;
        }
        return now.shut == 1 ? i : chainEnd(i, NONE);
    }

    public int runs(int i) {
        if (!isMan(i)) {
            return BAD;
        }
        int others = 0;
        for (int j = 0; j < squad.men; j++) {
            if (j != i && chainEnd(j, NONE) == i) {
                others++;
            }
        }
        return others;
    }

    public int most(int what) {
        if (!isEither(what)) {
            return BAD;
        }
        int best = 0;
        for (int f = 1; f < FACINGS; f++) {
            if (menFacing(f) > menFacing(best)) {
                best = f;
            }
        }
        return what == 0 ? best : menFacing(best);
    }

    public int groups(int what) {
        if (!isEither(what)) {
            return BAD;
        }
        int groups = 0;
        int longest = 0;
        int length = 0;
        for (int i = 0; i < squad.men; i++) {
            if (i == 0 || now.facing[i] != now.facing[i - 1]) {
                groups++;
                length = 0;
            }
            length++;
            longest = Math.max(longest, length);
        }
        return what == 0 ? groups : longest;
    }

    // ---- foreseen

    public int plan(int k) {
        if (k < -1 || k >= MOST_PLANNED) {
            return BAD;
        }
        findManners();
        for (int n = 0; n <= MOST_PLANNED; n++) {
            int row = firstRowAlike(n);
            if (row != NONE) {
                return k == -1 ? n : wordOfRow(row, n, k);
            }
        }
        return NONE;
    }

    public int turn(int i, int w) {
        if (!isMan(i) || !isWord(w)) {
            return BAD;
        }
        findManners();
        return facingForeseen(i, w);
    }

    public int alike(int w, int part) {
        if (!isWord(w) || !isEither(part)) {
            return BAD;
        }
        findLeaders();
        int above = 0;
        for (int f = 0; f < FACINGS; f++) {
            above += waysAllFace(f, TURNS[w]);
        }
        int below = 1;
        for (int i = 0; i < squad.men; i++) {
            if (leader[i] == i) {
                below *= waysToTurn(i);
            }
        }
        return partInLowestTerms(above, below, part);
    }

    public int right(int i, int w, int part) {
        if (!isMan(i) || !isWord(w) || !isEither(part)) {
            return BAD;
        }
        findLeaders();
        int turn = TURNS[w];
        int due = (dueFacing(now, i) + turn) % FACINGS;
        int above = 0;
        for (int m = 0; m < MANNERS; m++) {
            if (facingBy(i, m, turn) == due) {
                above += waysOfManner(leader[i], m);
            }
        }
        return partInLowestTerms(above, waysToTurn(leader[i]), part);
    }

    public int which(int i, int f) {
        if (!isMan(i) || f < 0 || f >= FACINGS) {
            return BAD;
        }
        findManners();
        int words = 0;
        for (int w = 0; w < WORDS; w++) {
            if (facingForeseen(i, w) == f) {
                words |= 1 << w;
            }
        }
        return words;
    }

    public int safe(int i) {
        if (!isMan(i)) {
            return BAD;
        }
        for (int c = 0; c < squad.men; c++) {
            // A chain that meets the man himself would come round, were he LOOKING.
            int end = chainEnd(c, i);
            if (end != NONE && squad.kind[end] == SURE) {
                return c;
            }
        }
        return NONE;
    }

    public int numbers(int n) {
        if (n < 1 || n > MOST_PLANNED) {
            return BAD;
        }
        findManners();
        int rows = 0;
        for (int row = 0; row < ROWS[n]; row++) {
            if (isRowAlike(row, n)) {
                rows++;
            }
        }
        return rows;
    }

    public int drill(int z, int n, int what) {
        if (z < 0 || z > LAST_DRILL || n < 1 || n > MOST_DRILLED || !isEither(what)) {
            return BAD;
        }
        findLeaders();
        trial.copy(now);
        int alike = 0;
        for (int ahead = 0; ahead < n; ahead++) {
            say(trial, drawOf(7919L * z + 6151L * ahead + 1) % WORDS);
            if (isAlike(trial)) {
                alike++;
            }
        }
        return what == 0 ? Integer.bitCount(wrongMen(trial)) : alike;
    }

    // ---- kept

    public int keep() {
        if (kept.size >= MOST_KEPT) {
            return FULL;
        }
        kept.put(now);
        return kept.size;
    }

    public int back() {
        if (!kept.takeTop(now)) {
            return NO;
        }
        undoable.size = 0;
        return kept.size;
    }

    public int count(int what) {
        switch (what) {
            case 0:
                return squad.men;
            case 1:
                return now.words;
            case 2:
                return now.shut;
            case 3:
                return undoable.size;
            case 4:
                return kept.size;
            case 5:
                return script.length;
            default:
                return BAD;
        }
    }

    // ---- numbers that are told

    private boolean isMan(int i) {
        return i >= 0 && i < squad.men;
    }

    private static boolean isWord(int w) {
        return w >= 0 && w < WORDS;
    }

    private static boolean isEither(int number) {
        return number == 0 || number == 1;
    }

    // ---- laying

    private boolean layScript() {
        if (script.readInto(draft) != NONE || !draft.canBeLaid()) {
            return false;
        }
        Squad spare = squad;
        squad = draft;
        draft = spare;
        now.begin(squad);
        undoable.size = 0;
        kept.size = 0;
        return true;
    }

    // ---- whom a man looks at, and so on

    /**
     * The one at whom the looking that begins with a man ends, EYES open; NONE if it comes round,
     * or meets the barred man (NONE bars nobody).
     */
    private int chainEnd(int from, int barred) {
        int at = from;
        for (int step = 0; step <= squad.men && at != barred; step++) {
            if (squad.kind[at] != LOOKING) {
                return at;
            }
            at = now.looksAt[at];
        }
        return NONE;
    }

    /** Whether a man goes ABOUT with another one who is shouted at. */
    private boolean heeds(int j, int shoutedAt) {
        return now.shut == 0
                && chainEnd(j, NONE) != NONE
                && chainEnd(j, shoutedAt) == NONE;
    }

    /** Fills the row of those whose turn each man copies, himself if nobody's. */
    private void findLeaders() {
        for (int i = 0; i < squad.men; i++) {
            int end = now.shut == 1 ? i : chainEnd(i, NONE);
            leader[i] = end == NONE ? i : end;
        }
    }

    // ---- turning

    private static int drawOf(long x) {
        return (int) (x * x % 65521 / 8);
    }

    /** Whether a leader turns as UNSURE ones: these, and LOOKING ones who cannot look. */
    private boolean isChancy(int chief) {
        return squad.kind[chief] == UNSURE || squad.kind[chief] == LOOKING;
    }

    private int mannerOf(int chief, boolean errs) {
        if (squad.kind[chief] == LATE) {
            return BEHIND;
        }
        return isChancy(chief) && errs ? ASTRAY : AS_TOLD;
    }

    private boolean errsByDraw(int chief, int number) {
        long x = 7919L * squad.seed + 6151L * number + 3571L * chief + 1;
        return drawOf(x) % TEN < squad.erring[chief];
    }

    private static int turnBy(int manner, int turn, int turnAhead) {
        if (manner == BEHIND) {
            return turnAhead;
        }
        // The other way round; ABOUT stays ABOUT, as nobody errs by it.
        return manner == ASTRAY ? FACINGS - turn : turn;
    }

    private void say(Standing squadThen, int w) {
        int turn = TURNS[w];
        for (int i = 0; i < squad.men; i++) {
            boolean errs = errsByDraw(leader[i], squadThen.words);
            int turned = turnBy(mannerOf(leader[i], errs), turn, squadThen.turnAhead);
            squadThen.facing[i] = (squadThen.facing[i] + turned) % FACINGS;
            if (turned != turn) {
                squadThen.erred |= 1 << i;
            }
        }
        squadThen.words++;
        squadThen.turnAhead = turn;
        squadThen.told = (squadThen.told + turn) % FACINGS;
    }

    // ---- how they face

    private int dueFacing(Standing squadThen, int i) {
        return (squad.facing[i] + squadThen.told) % FACINGS;
    }

    private int wrongMen(Standing squadThen) {
        int men = 0;
        for (int i = 0; i < squad.men; i++) {
            if (squadThen.facing[i] != dueFacing(squadThen, i)) {
                men |= 1 << i;
            }
        }
        return men;
    }

    private int menFacing(int f) {
        int men = 0;
        for (int i = 0; i < squad.men; i++) {
            if (now.facing[i] == f) {
                men++;
            }
        }
        return men;
    }

    private boolean isAlike(Standing squadThen) {
        for (int i = 1; i < squad.men; i++) {
            if (squadThen.facing[i] != squadThen.facing[0]) {
                return false;
            }
        }
        return true;
    }

    // ---- as foreseen

    /** Fills the row of the manners in which the men would turn, as FORESEEN. */
    private void findManners() {
        findLeaders();
        for (int i = 0; i < squad.men; i++) {
            manner[i] = mannerOf(leader[i], squad.erring[leader[i]] >= FORESEEN_ERROR);
        }
    }

    private int facingBy(int i, int itsManner, int turn) {
        return (now.facing[i] + turnBy(itsManner, turn, now.turnAhead)) % FACINGS;
    }

    private int facingForeseen(int i, int w) {
        return facingBy(i, manner[i], TURNS[w]);
    }

    // A row of n WORDS is a number of n figures to the base 3, the first WORD being the highest
    // figure, so that rows follow one another as the document ranks them.

    private int firstRowAlike(int n) {
        for (int row = 0; row < ROWS[n]; row++) {
            if (isRowAlike(row, n)) {
                return row;
            }
        }
        return NONE;
    }

    private static int wordOfRow(int row, int n, int k) {
        if (k >= n) {
            return NONE;
        }
        int rest = row;
        for (int last = n - 1; last > k; last--) {
            rest /= WORDS;
        }
        return rest % WORDS;
    }

    private boolean isRowAlike(int row, int n) {
        addUpRow(row, n);
        int first = (now.facing[0] + rowTurn[manner[0]]) % FACINGS;
        for (int i = 1; i < squad.men; i++) {
            if ((now.facing[i] + rowTurn[manner[i]]) % FACINGS != first) {
                return false;
            }
        }
        return true;
    }

    /** Fills in how far a row of WORDS turns a man in each manner. */
    private void addUpRow(int row, int n) {
        int told = 0;
        int astray = 0;
        int behind = 0;
        int rest = row;
        for (int k = n - 1; k >= 0; k--) {
            int turn = TURNS[rest % WORDS];
            rest /= WORDS;
            int turnAhead = k == 0 ? now.turnAhead : TURNS[rest % WORDS];
            told += turnBy(AS_TOLD, turn, turnAhead);
            astray += turnBy(ASTRAY, turn, turnAhead);
            behind += turnBy(BEHIND, turn, turnAhead);
        }
        rowTurn[AS_TOLD] = told;
        rowTurn[ASTRAY] = astray;
        rowTurn[BEHIND] = behind;
    }

    // ---- chances, counted in ways: ten for a leader who may err, one for another

    private int waysToTurn(int chief) {
        return isChancy(chief) ? TEN : 1;
    }

    private int waysOfManner(int chief, int itsManner) {
        if (!isChancy(chief)) {
            return itsManner == mannerOf(chief, false) ? 1 : 0;
        }
        if (itsManner == ASTRAY) {
            return squad.erring[chief];
        }
        return itsManner == AS_TOLD ? TEN - squad.erring[chief] : 0;
    }

    private int waysAllFace(int f, int turn) {
        int ways = 1;
        for (int i = 0; i < squad.men; i++) {
            if (leader[i] == i) {
                ways *= waysLedFace(i, f, turn);
            }
        }
        return ways;
    }

    private int waysLedFace(int chief, int f, int turn) {
        int ways = 0;
        for (int m = 0; m < MANNERS; m++) {
            if (wouldLedFace(chief, m, f, turn)) {
                ways += waysOfManner(chief, m);
            }
        }
        return ways;
    }

    private boolean wouldLedFace(int chief, int itsManner, int f, int turn) {
        for (int i = 0; i < squad.men; i++) {
            if (leader[i] == chief && facingBy(i, itsManner, turn) != f) {
                return false;
            }
        }
        return true;
    }

    private static int partInLowestTerms(int above, int below, int part) {
        int common = commonDivisor(above, below);
        int whole = part == 0 ? above : below;
        return common > 0 ? whole / common : whole;
    }

    private static int commonDivisor(int a, int b) {
        int larger = a;
        int smaller = b;
        // Each second remainder is less than half, so 64 steps are more than an int can need.
        for (int step = 0; step < 64 && smaller != 0; step++) {
            int rest = larger % smaller;
            larger = smaller;
            smaller = rest;
        }
        return larger;
    }

    /** THE TEXT, and how it is read. */
    private static final class Script {

        private static final int FAULTY = -1;

        final char[] letters = new char[MOST_LETTERS];
        int length;
        /** The numbers of the ITEM that is read. */
        final int[] told = new int[MOST_NUMBERS];

        boolean add(char letter) {
            if (length >= letters.length) {
                return false;
            }
            letters[length] = letter;
            length++;
            return true;
        }

        void clear() {
            length = 0;
        }

        /** Answers FAULT, or NONE; the squad is whole only if it is NONE. */
        int readInto(Squad reader) {
            reader.clear();
            int at = 0;
            for (int items = 0; items < MOST_LETTERS && at < length; items++) {
                int next = readItem(at, reader);
                if (next == FAULTY) {
                    return at;
                }
                at = next;
            }
            return NONE;
        }

        /** Answers the place behind the ITEM, or FAULTY. */
        private int readItem(int at, Squad reader) {
            char letter = letters[at];
            int numbersDue = numbersBehind(letter);
            if (numbersDue == 0) {
                return FAULTY;
            }
            int place = at + 1;
            for (int k = 0; k < numbersDue; k++) {
                int figures = readNumber(place, k);
                place += figures;
                char mark = k == numbersDue - 1 ? ';' : ',';
                if (figures == 0 || place >= length || letters[place] != mark) {
                    return FAULTY;
                }
                place++;
            }
            return reader.take(letter, told) ? place : FAULTY;
        }

        private static int numbersBehind(char letter) {
            if (letter == 'm') {
                return MOST_NUMBERS;
            }
            return letter == 'z' || letter == 'e' ? 1 : 0;
        }

        /** Reads the k-th number of an ITEM, and answers how many figures it has. */
        private int readNumber(int place, int k) {
            int value = 0;
            int figures = 0;
            while (figures < 2 && isFigure(place + figures)) {
                value = value * 10 + (letters[place + figures] - '0');
                figures++;
            }
            told[k] = value;
            return figures;
        }

        private boolean isFigure(int place) {
            return place < length && letters[place] >= '0' && letters[place] <= '9';
        }
    }

    /** What a TEXT tells: it stays while the squad is drilled. */
    private static final class Squad {

        int men;
        int seed;
        int shut;
        final int[] kind = new int[MOST_MEN];
        final int[] facing = new int[MOST_MEN];
        final int[] looksAt = new int[MOST_MEN];
        final int[] erring = new int[MOST_MEN];

        void clear() {
            men = 0;
            seed = 0;
            shut = 0;
        }

        /** Takes an ITEM's numbers, if they are such as the letter wants. */
        boolean take(char letter, int[] told) {
            if (letter == 'm') {
                return takeMan(told[0], told[1], told[2], told[3]);
            }
            if (letter == 'z') {
                seed = told[0];
                return true;
            }
            if (told[0] > 1) {
                return false;
            }
            shut = told[0];
            return true;
        }

        private boolean takeMan(int itsKind, int f, int c, int p) {
            if (men >= MOST_MEN || itsKind > LATE || f >= FACINGS || c >= MOST_MEN || p > TEN) {
                return false;
            }
            kind[men] = itsKind;
            facing[men] = f;
            looksAt[men] = c;
            erring[men] = p;
            men++;
            return true;
        }

        boolean canBeLaid() {
            for (int i = 0; i < men; i++) {
                if (looksAt[i] >= men) {
                    return false;
                }
            }
            return men > 0;
        }
    }

    /** How the squad stands, and what came of the words so far: all that can be undone or kept. */
    private static final class Standing {

        final int[] facing = new int[MOST_MEN];
        final int[] looksAt = new int[MOST_MEN];
        int shut;
        int words;
        /** How far the latest word turns; 0 without one, as LATE ones do nothing then. */
        int turnAhead;
        /** How far all words turn together. */
        int told;
        /** Men, as bits: who ever turned otherwise than a word said, who ever went by a shout. */
        int erred;
        int shouted;

        void begin(Squad squad) {
            System.arraycopy(squad.facing, 0, facing, 0, MOST_MEN);
            System.arraycopy(squad.looksAt, 0, looksAt, 0, MOST_MEN);
            shut = squad.shut;
            words = 0;
            turnAhead = 0;
            told = 0;
            erred = 0;
            shouted = 0;
        }

        void copy(Standing other) {
            System.arraycopy(other.facing, 0, facing, 0, MOST_MEN);
            System.arraycopy(other.looksAt, 0, looksAt, 0, MOST_MEN);
            shut = other.shut;
            words = other.words;
            turnAhead = other.turnAhead;
            told = other.told;
            erred = other.erred;
            shouted = other.shouted;
        }
    }

    /** Standings put by, the latest on top; a full pile loses its oldest one. */
    private static final class Pile {

        final Standing[] places;
        int size;

        Pile(int most) {
            places = new Standing[Math.max(most, 1)];
            for (int k = 0; k < places.length; k++) {
                places[k] = new Standing();
            }
        }

        void put(Standing standing) {
            if (size >= places.length) {
                loseOldest();
            }
            places[size].copy(standing);
            size++;
        }

        /** The oldest one's place is used again on top. */
        private void loseOldest() {
            Standing oldest = places[0];
            for (int k = 1; k < places.length; k++) {
                places[k - 1] = places[k];
            }
            places[places.length - 1] = oldest;
            size = places.length - 1;
        }

        boolean takeTop(Standing standing) {
            if (size <= 0) {
                return false;
            }
            size--;
            standing.copy(places[size]);
            return true;
        }
    }
}
