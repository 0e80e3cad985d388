/**
 * Skins over poles: a tent as a chimney that people live in. The document (../shared/DOC.md) says what each call
 * answers; words in capitals in the comments here are its words.
 */
public final class SkinTent {
    public static final int NONE = -1, UNKNOWN = -1000000001, OUTSIDE = -1000000002, NOT = -1000000003, FULL = -1000000004;

    private static final int LAYERS = 8, WAYS = 8, SHUT = 8, PLACES = 24, EARS = 2;
    private static final int MOST_FIRE = 9, MOST_STRENGTH = 9, MOST_GUST = 9;
    private static final int MOST_MINUTES = 600, MOST_TRIED_MINUTES = 60, MOST_TRIED_WARMTH = 9999;
    private static final int IMAGES = 2, MOST_RULES = 4, MOST_RULE_BYTES = 80;
    private static final int MOST_MONTHS = 24, MOST_DRAG = 30, POLE_LENGTH = 99, STANDING = 3;

    private final Text text = new Text();
    // A text is read into a draft, which takes the place of what was told only if it has no FAULT.
    private Tent tent = new Tent();
    private Tent tentDraft = new Tent();
    private Night nightTold = new Night();
    private Night nightDraft = new Night();
    private final Rule[] rules = new Rule[MOST_RULES];
    private int rulesTold = 0;

    private final Air air = new Air();
    private final Air[] images = new Air[IMAGES];
    private final boolean[] kept = new boolean[IMAGES];
    private final Best bestSet = new Best();
    private final int[] latest = new int[Night.TALLIES];

    private final Storm stormTold = new Storm();
    // What weakest() tries is not the STORM that is told.
    private final Storm stormTried = new Storm();
    private final Acts acts = new Acts();
    private final Bundle bundle = new Bundle();
    private final Hides hides = new Hides();
    private final int[] drags = new int[MOST_MONTHS];
    private final boolean[] treesIn = new boolean[MOST_MONTHS];
    private int months = 0;

    public SkinTent() {
        for (int i = 0; i < MOST_RULES; i++) {
            rules[i] = new Rule();
        }
        for (int i = 0; i < IMAGES; i++) {
            images[i] = new Air();
        }
        for (int i = 0; i < Night.TALLIES; i++) {
            latest[i] = NONE;
        }
    }

    // ---- texts

    public int feed(int n, long bytes) {
        if (n < 1 || n > 8) {
            return OUTSIDE;
        }
        if (text.many + n > Text.MOST) {
            return FULL;
        }
        text.append(n, bytes);
        return text.many;
    }

    public int tent() {
        int clauses = tentDraft.read(text);
        if (text.fault != 0) {
            return -10 - text.fault;
        }
        Tent before = tent;
        tent = tentDraft;
        tentDraft = before;
        air.freshen();
        stormTold.many = 0;
        bundle.stands = false;
        bestSet.known = false;
        return clauses;
    }

    public int night() {
        nightDraft.read(text);
        if (text.fault != 0) {
            return -10 - text.fault;
        }
        Night before = nightTold;
        nightTold = nightDraft;
        nightDraft = before;
        return nightTold.many;
    }

    public int rule() {
        if (text.many > MOST_RULE_BYTES) {
            return NOT;
        }
        if (rulesTold >= MOST_RULES) {
            return FULL;
        }
        Rule next = rules[rulesTold];
        if (next == null) {
            return FULL;
        }
        next.read(text);
        if (text.fault != 0) {
            return -10 - text.fault;
        }
        rulesTold++;
        return rulesTold - 1;
    }

    public int fault() {
        return text.place;
    }

    public int told(int what) {
        if (what < 0 || what > 12) {
            return OUTSIDE;
        }
        if (what < Tent.VALUES) {
            return tent.values[what];
        }
        switch (what) {
            case 9: return tent.poles.many;
            case 10: return tent.pegs.many;
            case 11: return nightTold.many;
            default: return rulesTold;
        }
    }

    public int pole(int k, int what) {
        return tent.poles.ofOne(k, what);
    }

    public int peg(int k, int what) {
        return tent.pegs.ofOne(k, what);
    }

    // ---- minutes

    public int ear(int e, int v) {
        if (e < 0 || e >= EARS) {
            return UNKNOWN;
        }
        if (v < 0 || v > SHUT) {
            return OUTSIDE;
        }
        int before = air.ears[e];
        air.ears[e] = v;
        return before;
    }

    public int wind(int a, int w) {
        if (isNoWind(a, w)) {
            return OUTSIDE;
        }
        int before = air.strength;
        air.way = a;
        air.strength = w;
        return before;
    }

    public int wet(boolean is) {
        int before = air.wet ? 1 : 0;
        air.wet = is;
        return before;
    }

    public int fire(int f) {
        if (f < 0 || f > MOST_FIRE) {
            return OUTSIDE;
        }
        int before = air.fire;
        air.fire = f;
        return before;
    }

    public int run(int n) {
        if (n < 1 || n > MOST_MINUTES) {
            return OUTSIDE;
        }
        for (int i = 0; i < n; i++) {
            air.goMinute(tent);
        }
        return air.low(tent);
    }

    public int fresh() {
        int before = air.minutes;
        air.freshen();
        return before;
    }

    public long layer(int k, int what) {
        if (k < 0 || k >= LAYERS) {
            return UNKNOWN;
        }
        switch (what) {
            case 0: return air.smoke[k];
            case 1: return air.heat[k];
            case 2: return air.warmth(k);
            default: return OUTSIDE;
        }
    }

    public long count(int what) {
        switch (what) {
            case 0: return air.minutes;
            case 1: return air.draw(tent);
            case 2: return air.lift();
            case 3: return air.open(tent);
            case 4: return air.low(tent);
            case 5: return air.smokeGiven;
            case 6: return air.smokeOut;
            case 7: return air.heatGiven;
            case 8: return air.heatOut;
            case 9: return air.heatLost;
            case 10: return air.fire;
            case 11: return air.way;
            case 12: return air.strength;
            case 13: return air.wet ? 1 : 0;
            case 14: return air.ears[0];
            case 15: return air.ears[1];
            case 16: return text.many;
            default: return OUTSIDE;
        }
    }

    public int best(int n, int w, int l, int what) {
        if (n < 1 || n > MOST_TRIED_MINUTES || w < 0 || w > MOST_TRIED_WARMTH) {
            return OUTSIDE;
        }
        if (l < 0 || l > LAYERS || what < 0 || what > 3) {
            return OUTSIDE;
        }
        bestSet.seek(tent, air, n, w, l);
        switch (what) {
            case 0: return bestSet.fire;
            case 1: return bestSet.ear0;
            case 2: return bestSet.ear1;
            default: return bestSet.low;
        }
    }

    // ---- nights

    public int live(int rule, int g) {
        if (rule < 0 || rule >= rulesTold || rule >= MOST_RULES) {
            return UNKNOWN;
        }
        if (g < 0 || g > MOST_GUST) {
            return OUTSIDE;
        }
        Rule by = rules[rule];
        if (by == null) {
            return UNKNOWN;
        }
        nightTold.pass(by, g, air, tent, latest);
        return latest[Night.OUT];
    }

    public int lived(int what) {
        if (what < 0 || what >= Night.TALLIES) {
            return OUTSIDE;
        }
        return latest[what];
    }

    // ---- storms, putting up, the route

    public int storm(int a, int w) {
        if (isNoWind(a, w)) {
            return OUTSIDE;
        }
        stormTold.blow(tent, a, w);
        return stormTold.many;
    }

    public int gone(int i, int what) {
        if (what < 0 || what > 2) {
            return OUTSIDE;
        }
        if (i < 0 || i >= stormTold.many || i >= Storm.MOST) {
            return NONE;
        }
        switch (what) {
            case 0: return stormTold.kinds[i];
            case 1: return stormTold.which[i];
            default: return stormTold.excesses[i];
        }
    }

    public int weakest(int a, boolean falls) {
        if (a < 0 || a >= WAYS) {
            return OUTSIDE;
        }
        for (int w = 0; w <= MOST_STRENGTH; w++) {
            stormTried.blow(tent, a, w);
            if (falls ? stormTried.felled : stormTried.many > 0) {
                return w;
            }
        }
        return NONE;
    }

    public int act(int m, int h, int after) {
        if (acts.isUnknown(after)) {
            return UNKNOWN;
        }
        if (m < 1 || m > Acts.MOST_MINUTES || h < 1 || h > 2) {
            return OUTSIDE;
        }
        if (acts.many >= Acts.MOST) {
            return FULL;
        }
        return acts.add(m, h, after);
    }

    public int clear() {
        int before = acts.many;
        acts.many = 0;
        return before;
    }

    public int least() {
        return acts.fewestMinutes();
    }

    public int tripod(int a, int b, int c) {
        int poles = tent.poles.many;
        if (a < 0 || a >= poles || b < 0 || b >= poles || c < 0 || c >= poles) {
            return UNKNOWN;
        }
        if (a == b || b == c || a == c) {
            return UNKNOWN;
        }
        bundle.settle(tent.poles, a, b, c);
        return 1;
    }

    public int fork(int p) {
        if (p < 0 || p >= tent.poles.many) {
            return UNKNOWN;
        }
        if (!bundle.stands) {
            return NOT;
        }
        return bundle.forkOf(tent.poles, p);
    }

    public int order(int j) {
        if (!bundle.stands || bundle.others > Bundle.MOST) {
            return NOT;
        }
        if (j == NONE) {
            return bundle.cost;
        }
        return j < 0 || j >= bundle.others ? NONE : bundle.inOrder[j];
    }

    public int hide(int v) {
        if (v < 1 || v > Hides.MOST_LENGTH) {
            return OUTSIDE;
        }
        if (hides.hides >= Hides.MOST) {
            return FULL;
        }
        return hides.addHide(v);
    }

    public int piece(int v) {
        if (v < 1 || v > Hides.MOST_LENGTH) {
            return OUTSIDE;
        }
        if (hides.pieces >= Hides.MOST) {
            return FULL;
        }
        return hides.addPiece(v);
    }

    public int scrap() {
        int before = hides.hides + hides.pieces;
        hides.empty();
        return before;
    }

    public int cut(int j) {
        hides.solve();
        if (j == NONE) {
            return hides.taken;
        }
        return j < 0 || j >= hides.pieces || hides.taken == NONE ? NONE : hides.from[j];
    }

    public int month(int drag, boolean trees) {
        if (drag < 0 || drag > MOST_DRAG) {
            return OUTSIDE;
        }
        if (months >= MOST_MONTHS) {
            return FULL;
        }
        drags[months] = drag;
        treesIn[months] = trees;
        months++;
        return months;
    }

    public int stay() {
        int before = months;
        months = 0;
        return before;
    }

    /**
     * Whoever cuts as late as can be needs the fewest cuts, and each of them lies no earlier than in another plan of
     * as many: so it is the greatest SET, too.
     */
    public int plan(int m) {
        if (m < 0 || m > POLE_LENGTH) {
            return OUTSIDE;
        }
        int set = 0, length = POLE_LENGTH, latestTrees = NONE, lengthIfCut = POLE_LENGTH;
        for (int i = 0; i < months; i++) {
            if (treesIn[i]) {
                latestTrees = i;
                lengthIfCut = POLE_LENGTH;
            }
            length -= drags[i];
            lengthIfCut -= drags[i];
            if (length >= m) {
                continue;
            }
            if (latestTrees == NONE || lengthIfCut < m) {
                return NONE;
            }
            set |= 1 << latestTrees;
            length = lengthIfCut;
        }
        return set;
    }

    // ---- draws, images

    public int seed(int v) {
        if (v < 0) {
            return OUTSIDE;
        }
        int before = (int) air.seed;
        air.seed = v;
        return before;
    }

    public int keep(int i) {
        if (i < 0 || i >= IMAGES) {
            return UNKNOWN;
        }
        Air image = images[i];
        if (image == null) {
            return UNKNOWN;
        }
        image.become(air);
        kept[i] = true;
        return 1;
    }

    public int goBack(int i) {
        if (i < 0 || i >= IMAGES) {
            return UNKNOWN;
        }
        Air image = images[i];
        if (image == null || !kept[i]) {
            return NOT;
        }
        air.become(image);
        return 1;
    }

    private static boolean isNoWind(int way, int strength) {
        return way < 0 || way >= WAYS || strength < 0 || strength > MOST_STRENGTH;
    }

    /** By how many eighths two WAYS lie APART, 0 to 4. */
    private static int apart(int way, int other) {
        int eighths = Math.floorMod(way - other, WAYS);
        return Math.min(eighths, WAYS - eighths);
    }

    /** THE TEXT as it was fed, read from its beginning on; the first FAULT found is kept. */
    private static final class Text {
        private static final int MOST = 300, MOST_FIGURES = 3;
        private final int[] bytes = new int[MOST];
        private int many = 0;
        private int at = 0;
        private int fault = 0;
        private int place = NONE;

        void append(int n, long told) {
            for (int i = n - 1; i >= 0 && many < MOST; i--) {
                bytes[many] = (int) (told >> 8 * i) & 255;
                many++;
            }
        }

        void begin() {
            at = 0;
            fault = 0;
            place = NONE;
        }

        void end() {
            many = 0;
            at = 0;
        }

        /** Reading goes from left to right: so the FAULT that is blamed first is that of the first byte. */
        void blame(int number, int where) {
            if (fault == 0) {
                fault = number;
                place = where;
            }
        }

        /** Whether there is something to read still, no FAULT found; at is then where it begins. */
        boolean goesOn() {
            passBlanks();
            return fault == 0 && at < many;
        }

        void passBlanks() {
            while (at < many && at < MOST && bytes[at] == ' ') {
                at++;
            }
        }

        /** Whether the word stands next; if so, reading goes on behind it. */
        boolean takes(String word) {
            passBlanks();
            int length = word.length();
            if (at + length > many || isLetterAt(at + length)) {
                return false;
            }
            for (int i = 0; i < length; i++) {
                if (byteAt(at + i) != word.charAt(i)) {
                    return false;
                }
            }
            at += length;
            return true;
        }

        void needSign(char sign) {
            passBlanks();
            if (byteAt(at) == sign) {
                at++;
            } else {
                blame(1, at);
            }
        }

        int number(int least, int most) {
            passBlanks();
            int first = at;
            int value = 0;
            while (at < many && isFigureAt(at)) {
                if (at - first < MOST_FIGURES) {
                    value = value * 10 + byteAt(at) - '0';
                }
                at++;
            }
            if (at == first) {
                blame(1, first);
            } else if (at - first > MOST_FIGURES || value < least || value > most) {
                blame(2, first);
            }
            return value;
        }

        private int byteAt(int where) {
            return where < 0 || where >= many || where >= MOST ? NONE : bytes[where];
        }

        private boolean isLetterAt(int where) {
            int b = byteAt(where);
            return b >= 'a' && b <= 'z';
        }

        private boolean isFigureAt(int where) {
            int b = byteAt(where);
            return b >= '0' && b <= '9';
        }
    }

    /** What stands round the tent, POLES or PEGS, and what each bears in a STORM. */
    private static final class Ring {
        private static final int MOST = 16, MOST_MIGHT = 999;
        private final int[] places = new int[MOST];
        // A POLE's strength, a PEG's hold.
        private final int[] mights = new int[MOST];
        private int many = 0;
        // PRESS or PULL, and what came on from those that went: a rope takes its share of the first alone.
        private final int[] pulls = new int[MOST];
        private final int[] came = new int[MOST];
        private final boolean[] holds = new boolean[MOST];
        private int holding = 0;

        /** Reads a clause from behind its word, that begins at first. */
        void read(Text text, int first) {
            if (many >= MOST) {
                text.blame(3, first);
                return;
            }
            text.passBlanks();
            int where = text.at;
            int place = text.number(0, PLACES - 1);
            if (isTaken(place)) {
                text.blame(4, where);
            }
            int might = text.number(1, MOST_MIGHT);
            text.needSign(';');
            if (text.fault == 0) {
                places[many] = place;
                mights[many] = might;
                many++;
            }
        }

        private boolean isTaken(int place) {
            for (int i = 0; i < many; i++) {
                if (places[i] == place) {
                    return true;
                }
            }
            return false;
        }

        int ofOne(int k, int what) {
            if (k < 0 || k >= many) {
                return UNKNOWN;
            }
            switch (what) {
                case 0: return places[k];
                case 1: return mights[k];
                default: return OUTSIDE;
            }
        }

        /** A STORM begins; its square is its strength times itself, the shares stand by how far APART. */
        void loadUp(int way, int square, int[] shares) {
            for (int i = 0; i < many; i++) {
                int share = apart(places[i] / 3, way);
                pulls[i] = share < shares.length ? square * shares[share] : 0;
                came[i] = 0;
                holds[i] = true;
            }
            holding = many;
        }

        private int bears(int i, int less) {
            return Math.max(0, pulls[i] - less) + came[i];
        }

        /** By how much one bears more than it can, if so much less pulls at it. */
        int excess(int i, int less) {
            return bears(i, less) - mights[i];
        }

        /** The first of those with the greatest excess; NONE, if none has one above 0. */
        int worst(int less) {
            int worst = NONE;
            int most = 0;
            for (int i = 0; i < many; i++) {
                if (holds[i] && excess(i, less) > most) {
                    worst = i;
                    most = excess(i, less);
                }
            }
            return worst;
        }

        /** What goes on is what it bore in this round: the rope keeps its share of that. */
        void lose(int i, int less) {
            holds[i] = false;
            holding--;
            int bore = bears(i, less);
            int half = bore / 2;
            int rising = nextHolding(i, 1);
            int falling = nextHolding(i, -1);
            if (rising != NONE && falling != NONE) {
                came[rising] += half;
                came[falling] += bore - half;
            }
        }

        private int nextHolding(int from, int step) {
            int next = NONE;
            int nearest = PLACES;
            for (int i = 0; i < many; i++) {
                int far = Math.floorMod((places[i] - places[from]) * step, PLACES);
                if (holds[i] && far < nearest) {
                    next = i;
                    nearest = far;
                }
            }
            return next;
        }
    }

    /** THE TENT as a text tells it. */
    private static final class Tent {
        // The values by the numbers that told() has for them.
        private static final int CLOTH = 0, DOOR = 1, MIX = 2, SKIN = 3, HOLE = 4;
        private static final int HEAT = 5, SMOKE = 6, LIMIT = 7, ROPE = 8, VALUES = 9;
        // Clauses that stand once, then those that may stand often.
        private static final int CLAUSES = 8, POLE = 8, PEG = 9, WORDS = 10;
        private static final int[] UNTOLD = {2, 20, 40, 30, 10, 300, 60, 150, 0};
        private static final int[] LEAST = {0, 0, 0, 0, 0, 1, 0, 0, 0};
        private static final int[] MOST = {5, 100, 200, 200, 99, 999, 999, 999, 999};
        // A clause tells the values from its own first one to the next clause's.
        private static final int[] FIRST_VALUE = {CLOTH, DOOR, MIX, SKIN, HOLE, HEAT, LIMIT, ROPE, VALUES};

        private final int[] values = UNTOLD.clone();
        private final boolean[] isTold = new boolean[CLAUSES];
        private final Ring poles = new Ring();
        private final Ring pegs = new Ring();

        /** How many clauses there are. */
        int read(Text text) {
            forget();
            text.begin();
            int clauses = 0;
            while (clauses < Text.MOST && text.goesOn()) {
                readClause(text);
                clauses++;
            }
            text.end();
            return clauses;
        }

        private void forget() {
            System.arraycopy(UNTOLD, 0, values, 0, VALUES);
            for (int i = 0; i < CLAUSES; i++) {
                isTold[i] = false;
            }
            poles.many = 0;
            pegs.many = 0;
        }

        private void readClause(Text text) {
            int first = text.at;
            int word = takeWord(text);
            if (word == NONE) {
                text.blame(1, first);
            } else if (word == POLE) {
                poles.read(text, first);
            } else if (word == PEG) {
                pegs.read(text, first);
            } else if (isTold[word]) {
                text.blame(3, first);
            } else {
                isTold[word] = true;
                readValues(text, word);
            }
        }

        private void readValues(Text text, int clause) {
            for (int i = FIRST_VALUE[clause]; i < FIRST_VALUE[clause + 1]; i++) {
                values[i] = text.number(LEAST[i], MOST[i]);
            }
            text.needSign(';');
        }

        private static int takeWord(Text text) {
            for (int i = 0; i < WORDS; i++) {
                if (text.takes(wordOf(i))) {
                    return i;
                }
            }
            return NONE;
        }

        private static String wordOf(int clause) {
            switch (clause) {
                case 0: return "cloth";
                case 1: return "door";
                case 2: return "mix";
                case 3: return "skin";
                case 4: return "hole";
                case 5: return "wood";
                case 6: return "limit";
                case 7: return "rope";
                case POLE: return "pole";
                default: return "peg";
            }
        }

        int of(int value) {
            return value < 0 || value >= VALUES ? 0 : values[value];
        }
    }

    /** All that an IMAGE keeps: LAYERS, what is COUNTED, EARS, THE FIRE, THE WIND, THE SEED. */
    private static final class Air {
        private static final int WARMTH = 20, FIRE_BELOW = 1, FIRE_ABOVE = 5;
        private static final int LEAST_DRAW = -400, MOST_DRAW = 700, OPEN_EAR = 50;
        // By eighths round from THE WIND's WAY to a SET: 0 to 4 APART and back again.
        private static final int[] LIFTS = {-12, -6, 3, 8, 10, 8, 3, -6};

        private final long[] smoke = new long[LAYERS];
        private final long[] heat = new long[LAYERS];
        private long smokeGiven = 0;
        private long smokeOut = 0;
        private long heatGiven = 0;
        private long heatOut = 0;
        private long heatLost = 0;
        private int minutes = 0;
        private final int[] ears = {SHUT, SHUT};
        private int fire = 0;
        private int way = 0;
        private int strength = 0;
        private boolean wet = false;
        private long seed = 0;

        void freshen() {
            for (int k = 0; k < LAYERS; k++) {
                smoke[k] = 0;
                heat[k] = 0;
            }
            smokeGiven = 0;
            smokeOut = 0;
            heatGiven = 0;
            heatOut = 0;
            heatLost = 0;
            minutes = 0;
        }

        void become(Air other) {
            System.arraycopy(other.smoke, 0, smoke, 0, LAYERS);
            System.arraycopy(other.heat, 0, heat, 0, LAYERS);
            System.arraycopy(other.ears, 0, ears, 0, EARS);
            smokeGiven = other.smokeGiven;
            smokeOut = other.smokeOut;
            heatGiven = other.heatGiven;
            heatOut = other.heatOut;
            heatLost = other.heatLost;
            minutes = other.minutes;
            fire = other.fire;
            way = other.way;
            strength = other.strength;
            wet = other.wet;
            seed = other.seed;
        }

        long warmth(int layer) {
            return heat[layer] / WARMTH;
        }

        int low(Tent tent) {
            int limit = tent.of(Tent.LIMIT);
            for (int k = 0; k < LAYERS; k++) {
                if (smoke[k] >= limit) {
                    return k;
                }
            }
            return LAYERS;
        }

        int open(Tent tent) {
            int open = 0;
            for (int e = 0; e < EARS; e++) {
                if (ears[e] != SHUT) {
                    open += OPEN_EAR;
                }
            }
            return open == 0 ? tent.of(Tent.HOLE) : open;
        }

        int lift() {
            return liftOf(ears[0]) + liftOf(ears[1]);
        }

        int liftOf(int earSet) {
            int eighths = (earSet - way + WAYS) % WAYS;
            return earSet == SHUT || eighths < 0 || eighths >= LIFTS.length ? 0 : strength * LIFTS[eighths];
        }

        int draw(Tent tent) {
            long warmth = 0;
            for (int k = 0; k < LAYERS; k++) {
                warmth += warmth(k);
            }
            long draw = warmth * open(tent) / 400 + lift();
            return (int) Math.max(LEAST_DRAW, Math.min(MOST_DRAW, draw));
        }

        /** A MINUTE. */
        void goMinute(Tent tent) {
            int draw = draw(tent);
            smokeOut += flow(smoke, draw, tent);
            heatOut += flow(heat, draw, tent);
            int mix = tent.of(Tent.MIX);
            blend(smoke, mix);
            blend(heat, mix);
            cool(tent);
            burn(tent);
            minutes++;
        }

        /** How much of it went out. */
        private static long flow(long[] row, int draw, Tent tent) {
            int cloth = tent.of(Tent.CLOTH);
            int door = tent.of(Tent.DOOR);
            return draw >= 0 ? rise(row, draw, draw * door / 100, cloth) : sink(row, -draw, -draw * door / 100, cloth);
        }

        /** From the top down: so each LAYER gives of what it had at the beginning. */
        private static long rise(long[] row, int draw, int below, int cloth) {
            long out = row[LAYERS - 1] * draw / 1000;
            row[LAYERS - 1] -= out;
            for (int k = LAYERS - 2; k >= 0; k--) {
                long goes = row[k] * (k >= cloth ? draw : below) / 1000;
                row[k] -= goes;
                row[k + 1] += goes;
            }
            return out;
        }

        /** From the floor up, for the same reason; what goes out is told ahead and taken behind. */
        private static long sink(long[] row, int back, int below, int cloth) {
            long outOfCloth = cloth == 0 ? 0 : row[cloth] * (back - below) / 1000;
            long outOfFloor = row[0] * (cloth == 0 ? back : below) / 1000;
            for (int k = 0; k < LAYERS - 1; k++) {
                long goes = row[k + 1] * (k >= cloth ? back : below) / 1000;
                row[k + 1] -= goes;
                row[k] += goes;
            }
            row[cloth] -= outOfCloth;
            row[0] -= outOfFloor;
            return outOfCloth + outOfFloor;
        }

        private static void blend(long[] row, int mix) {
            for (int k = 0; k < LAYERS - 1; k++) {
                long goes = (row[k] - row[k + 1]) * mix / 1000;
                row[k] -= goes;
                row[k + 1] += goes;
            }
        }

        private void cool(Tent tent) {
            int cloth = tent.of(Tent.CLOTH);
            int skin = tent.of(Tent.SKIN);
            for (int k = 0; k < LAYERS; k++) {
                long lost = heat[k] * (k < cloth ? skin / 2 : skin) / 1000;
                heat[k] -= lost;
                heatLost += lost;
            }
        }

        private void burn(Tent tent) {
            long warm = (long) fire * tent.of(Tent.HEAT);
            long smokes = (long) fire * tent.of(Tent.SMOKE) * (wet ? 2 : 1);
            heat[FIRE_BELOW] += warm / 2;
            heat[FIRE_ABOVE] += warm - warm / 2;
            smoke[FIRE_ABOVE] += smokes;
            heatGiven += warm;
            smokeGiven += smokes;
        }

        /** Draws one of n, at least 1 of them. */
        int drawn(int n) {
            seed = seed * 1103515245L + 12345L & 0x7fffffffL;
            return n < 1 ? 0 : (int) (seed / 65536 % n);
        }
    }

    /** Who LOOKS, how often, and what one does then. */
    private static final class Rule {
        // Far above what WARMTH can come to.
        private static final long NEVER = 1L << 60;
        private int every = 1;
        // Untold, these never come about: LOW is never below 0, WARMTH neither.
        private int smokeBelow = 0;
        private int coldBelow = 0;
        private long warmAbove = NEVER;
        private int more = 0;
        private int less = 0;

        void read(Text text) {
            text.begin();
            if (!text.takes("look")) {
                text.blame(1, text.at);
            }
            every = text.number(1, 60);
            smokeBelow = text.takes("smoke") ? text.number(0, LAYERS) : 0;
            boolean cold = text.takes("cold");
            coldBelow = cold ? text.number(0, 999) : 0;
            more = cold ? text.number(1, MOST_FIRE) : 0;
            boolean warm = text.takes("warm");
            warmAbove = warm ? text.number(0, 999) : NEVER;
            less = warm ? text.number(1, MOST_FIRE) : 0;
            if (text.goesOn()) {
                text.blame(1, text.at);
            }
            text.end();
        }

        boolean looksAt(int minute) {
            return every < 1 || minute % every == 0;
        }

        /** Whether one goes OUT. */
        boolean mind(Air air, Tent tent) {
            boolean out = air.low(tent) < smokeBelow;
            if (out) {
                air.ears[0] = (air.way + 4) % WAYS;
                air.ears[1] = air.ears[0];
            }
            long warmth = air.warmth(1);
            if (warmth < coldBelow) {
                air.fire = Math.min(MOST_FIRE, air.fire + more);
            } else if (warmth > warmAbove) {
                air.fire = Math.max(0, air.fire - less);
            }
            return out;
        }
    }

    /** THE NIGHT: rows of winds. */
    private static final class Night {
        private static final int MOST = 12, MOST_ROW_MINUTES = 99;
        private static final int OUT = 0, EYES = 1, COLD = 2, WOOD = 3, TALLIES = 4;
        private static final int CLEAR_EYES = 3, WARM_FEET = 100;
        private final int[] ways = new int[MOST];
        private final int[] strengths = new int[MOST];
        private final int[] lengths = new int[MOST];
        private final boolean[] wets = new boolean[MOST];
        private int many = 0;

        void read(Text text) {
            many = 0;
            text.begin();
            // A row takes bytes or is blamed, so there are fewer of them than bytes.
            for (int i = 0; i < Text.MOST && text.goesOn(); i++) {
                readRow(text);
            }
            text.end();
        }

        private void readRow(Text text) {
            int first = text.at;
            if (!text.takes("wind")) {
                text.blame(1, first);
                return;
            }
            if (many >= MOST) {
                text.blame(3, first);
                return;
            }
            ways[many] = text.number(0, WAYS - 1);
            strengths[many] = text.number(0, MOST_STRENGTH);
            lengths[many] = text.number(1, MOST_ROW_MINUTES);
            wets[many] = text.takes("wet");
            text.needSign(';');
            many++;
        }

        /** The NIGHT passes by a RULE; what is told of it comes into the tallies. */
        void pass(Rule rule, int gusts, Air air, Tent tent, int[] tallies) {
            for (int i = 0; i < tallies.length; i++) {
                tallies[i] = 0;
            }
            int minute = 0;
            for (int row = 0; row < many; row++) {
                air.way = ways[row];
                air.strength = strengths[row];
                air.wet = wets[row];
                for (int i = 0; i < lengths[row]; i++) {
                    if (rule.looksAt(minute) && rule.mind(air, tent)) {
                        add(tallies, OUT, 1);
                    }
                    if (gusts > 0) {
                        gust(air, row, gusts);
                    }
                    add(tallies, WOOD, air.fire);
                    air.goMinute(tent);
                    add(tallies, EYES, air.low(tent) < CLEAR_EYES ? 1 : 0);
                    add(tallies, COLD, air.warmth(1) < WARM_FEET ? 1 : 0);
                    minute++;
                }
            }
        }

        private void gust(Air air, int row, int gusts) {
            air.strength = Math.min(MOST_STRENGTH, strengths[row] + air.drawn(gusts + 1));
            air.way = Math.floorMod(ways[row] + air.drawn(3) - 1, WAYS);
        }

        private static void add(int[] tallies, int which, int much) {
            if (which < tallies.length) {
                tallies[which] += much;
            }
        }
    }

    /** THE BEST SET, as it was sought last. */
    private static final class Best {
        private final Air trial = new Air();
        private int fire = NONE;
        private int ear0 = NONE;
        private int ear1 = NONE;
        private int low = NONE;
        // What was asked: the same is often asked again, for another part of the answer.
        private boolean known = false;
        private int minutes = 0;
        private int warmth = 0;
        private int leastLow = 0;

        void seek(Tent tent, Air now, int n, int w, int l) {
            if (known && isAskedOf(now, n, w, l)) {
                return;
            }
            known = true;
            minutes = n;
            warmth = w;
            leastLow = l;
            trial.way = now.way;
            trial.strength = now.strength;
            trial.wet = now.wet;
            fire = NONE;
            ear0 = NONE;
            ear1 = NONE;
            low = NONE;
            for (int f = 0; f <= MOST_FIRE && fire == NONE; f++) {
                // A LAYER has no more HEAT than the fire gave.
                if ((long) n * f * tent.of(Tent.HEAT) / Air.WARMTH >= w) {
                    seekEars(tent, f);
                }
            }
        }

        private boolean isAskedOf(Air now, int n, int w, int l) {
            return minutes == n && warmth == w && leastLow == l
                && trial.way == now.way && trial.strength == now.strength && trial.wet == now.wet;
        }

        /** Which EAR has which of two SETS is the same to the air: the lesser SET ahead comes first. */
        private void seekEars(Tent tent, int f) {
            for (int a = 0; a <= SHUT; a++) {
                for (int b = a; b <= SHUT && low < LAYERS; b++) {
                    if (isFirstOfItsKind(a) && isFirstOfItsKind(b)) {
                        attempt(tent, f, a, b);
                    }
                }
            }
        }

        /** A SET does what it does by its LIFT alone: of those with the same the first stands for all. */
        private boolean isFirstOfItsKind(int earSet) {
            for (int lesser = 0; lesser < earSet && earSet != SHUT; lesser++) {
                if (trial.liftOf(lesser) == trial.liftOf(earSet)) {
                    return false;
                }
            }
            return true;
        }

        private void attempt(Tent tent, int f, int a, int b) {
            trial.freshen();
            trial.fire = f;
            trial.ears[0] = a;
            trial.ears[1] = b;
            for (int i = 0; i < minutes; i++) {
                trial.goMinute(tent);
            }
            int then = trial.low(tent);
            if (trial.warmth(1) >= warmth && then >= leastLow && then > low) {
                fire = f;
                ear0 = a;
                ear1 = b;
                low = then;
            }
        }
    }

    /** A STORM: what BREAKS and GOES, round by round. */
    private static final class Storm {
        private static final int MOST = 2 * Ring.MOST;
        private static final int[] PRESS = {5, 3, 0, 1, 2};
        private static final int[] PULL = {4, 2, 1, 3, 6};
        private final int[] kinds = new int[MOST];
        private final int[] which = new int[MOST];
        private final int[] excesses = new int[MOST];
        private int many = 0;
        private boolean felled = false;

        void blow(Tent tent, int way, int strength) {
            int square = strength * strength;
            tent.poles.loadUp(way, square, PRESS);
            tent.pegs.loadUp(way, square, PULL);
            many = 0;
            while (many < MOST && goesRound(tent.poles, tent.pegs, tent.of(Tent.ROPE))) {
                many++;
            }
            felled = tent.poles.holding < STANDING;
        }

        /** Whether something BREAKS or GOES in this round. */
        private boolean goesRound(Ring poles, Ring pegs, int rope) {
            int less = pegs.holding > 0 ? rope / pegs.holding : 0;
            int pole = poles.worst(0);
            int peg = pegs.worst(less);
            if (pole == NONE && peg == NONE) {
                return false;
            }
            boolean breaks = peg == NONE || pole != NONE && poles.excess(pole, 0) >= pegs.excess(peg, less);
            kinds[many] = breaks ? 0 : 1;
            which[many] = breaks ? pole : peg;
            excesses[many] = breaks ? poles.excess(pole, 0) : pegs.excess(peg, less);
            if (breaks) {
                poles.lose(pole, 0);
            } else {
                pegs.lose(peg, less);
            }
            return true;
        }
    }

    /** The ACTS of putting up. */
    private static final class Acts {
        private static final int MOST = 8, MOST_MINUTES = 30;
        private final int[] minutes = new int[MOST];
        private final int[] hands = new int[MOST];
        private final int[] after = new int[MOST];
        private final int[] ends = new int[MOST];
        private int many = 0;
        private int fewest = 0;

        boolean isUnknown(int acts) {
            return acts < 0 || acts >> many != 0;
        }

        int add(int m, int h, int afterThese) {
            if (many >= MOST) {
                return FULL;
            }
            minutes[many] = m;
            hands[many] = h;
            after[many] = afterThese;
            many++;
            return many - 1;
        }

        int fewestMinutes() {
            int oneByOne = 0;
            int work = 0;
            for (int i = 0; i < many; i++) {
                oneByOne += minutes[i];
                work += minutes[i] * hands[i];
            }
            fewest = oneByOne;
            putUp(this, 0, 0, 0, 0, 0, work);
            return fewest;
        }

        /**
         * Goes on from the SET of those begun (as many as depth): one of the women is free from sooner on, the other
         * from later on; so much work is left. The next ACT begins as soon as it can. Told by their beginnings, the
         * ACTS of some best row come so: what would begin ahead of the latest one is left out.
         */
        private static void putUp(Acts acts, int depth, int begun, int sooner, int later, int latest, int work) {
            if (depth >= acts.many) {
                acts.fewest = Math.min(acts.fewest, later);
                return;
            }
            // Both women together do what is left, at best without a rest.
            if (later >= acts.fewest || (sooner + later + work + 1) / 2 >= acts.fewest) {
                return;
            }
            for (int i = 0; i < acts.many; i++) {
                if ((begun >> i & 1) != 0 || (acts.after[i] & ~begun) != 0) {
                    continue;
                }
                boolean takesOne = acts.hands[i] == 1;
                int begins = Math.max(acts.readyAt(i), takesOne ? sooner : later);
                if (begins < latest) {
                    continue;
                }
                int end = begins + acts.minutes[i];
                int other = takesOne ? later : end;
                int rest = work - acts.minutes[i] * acts.hands[i];
                acts.ends[i] = end;
                putUp(acts, depth + 1, begun | 1 << i, Math.min(end, other), Math.max(end, other), begins, rest);
            }
        }

        private int readyAt(int act) {
            int ready = 0;
            for (int i = 0; i < act; i++) {
                if ((after[act] >> i & 1) != 0) {
                    ready = Math.max(ready, ends[i]);
                }
            }
            return ready;
        }
    }

    /** THE TRIPOD, its FORKS, THE ORDER of all other POLES. */
    private static final class Bundle {
        private static final int MOST = 8, LEGS = 3, SETS = 1 << MOST, TOO_MUCH = 1000000;
        private final int[] legs = new int[LEGS];
        private final int[] begins = new int[LEGS];
        private boolean stands = false;
        // How many other POLES there are; only MOST of them have a row here.
        private int others = 0;
        private final int[] which = new int[MOST];
        private final int[] forks = new int[MOST];
        private final int[] farOn = new int[MOST];
        // Of a SET of those that are in: the least that all the rest cost.
        private final int[] toCome = new int[SETS];
        private final int[] inOrder = new int[MOST];
        private int cost = 0;

        void settle(Ring poles, int a, int b, int c) {
            legs[0] = a;
            legs[1] = b;
            legs[2] = c;
            for (int i = 0; i < LEGS; i++) {
                begins[i] = poles.places[legs[i]];
            }
            sortBegins();
            stands = true;
            gatherOthers(poles);
            if (others <= MOST) {
                weigh();
                layOut();
            }
        }

        private void sortBegins() {
            int least = Math.min(begins[0], Math.min(begins[1], begins[2]));
            int greatest = Math.max(begins[0], Math.max(begins[1], begins[2]));
            begins[1] = begins[0] + begins[1] + begins[2] - least - greatest;
            begins[0] = least;
            begins[2] = greatest;
        }

        private void gatherOthers(Ring poles) {
            others = 0;
            for (int p = 0; p < poles.many; p++) {
                int fork = forkOf(poles, p);
                if (fork == NONE) {
                    continue;
                }
                if (others < MOST) {
                    which[others] = p;
                    forks[others] = fork;
                    farOn[others] = Math.floorMod(poles.places[p] - begins[fork], PLACES);
                }
                others++;
            }
        }

        int forkOf(Ring poles, int p) {
            if (p == legs[0] || p == legs[1] || p == legs[2]) {
                return NONE;
            }
            int place = poles.places[p];
            if (place < begins[0] || place > begins[2]) {
                return 2;
            }
            return place < begins[1] ? 0 : 1;
        }

        /** A greater SET is weighed ahead of the lesser ones that go on to it. */
        private void weigh() {
            int all = (1 << others) - 1;
            toCome[all] = 0;
            for (int in = all - 1; in >= 0; in--) {
                toCome[in] = TOO_MUCH;
                for (int i = 0; i < others; i++) {
                    if ((in >> i & 1) == 0) {
                        toCome[in] = Math.min(toCome[in], costOf(in, i) + toCome[in | 1 << i]);
                    }
                }
            }
            cost = toCome[0];
        }

        private void layOut() {
            int in = 0;
            for (int j = 0; j < others; j++) {
                int next = 0;
                for (int i = others - 1; i >= 0; i--) {
                    if ((in >> i & 1) == 0 && costOf(in, i) + toCome[in | 1 << i] == toCome[in]) {
                        next = i;
                    }
                }
                inOrder[j] = which[next];
                in |= 1 << next;
            }
        }

        private int costOf(int in, int next) {
            int crossed = 0;
            for (int i = 0; i < others; i++) {
                if ((in >> i & 1) != 0 && forks[i] == forks[next] && farOn[i] > farOn[next]) {
                    crossed++;
                }
            }
            int then = in | 1 << next;
            int first = manyIn(then, 0);
            int second = manyIn(then, 1);
            int third = manyIn(then, 2);
            int fullest = Math.max(first, Math.max(second, third));
            int emptiest = Math.min(first, Math.min(second, third));
            return crossed + Math.max(0, fullest - emptiest - 1);
        }

        private int manyIn(int in, int fork) {
            int many = 0;
            for (int i = 0; i < others; i++) {
                if ((in >> i & 1) != 0 && forks[i] == fork) {
                    many++;
                }
            }
            return many;
        }
    }

    /** HIDES and PIECES, and THE CUT. */
    private static final class Hides {
        private static final int MOST = 8, MOST_LENGTH = 999, SETS = 1 << MOST;
        // A hide's number and how much of it is taken, as one number that rises with both.
        private static final int STEP = 1024;
        private final int[] hideLengths = new int[MOST];
        private final int[] pieceLengths = new int[MOST];
        private int hides = 0;
        private int pieces = 0;
        private final int[] left = new int[MOST];
        // Of a SET of PIECES: how far into the row of HIDES one comes at least.
        private final int[] reached = new int[SETS];
        private final int[] from = new int[MOST];
        private int taken = 0;
        private boolean known = false;

        int addHide(int length) {
            if (hides >= MOST) {
                return FULL;
            }
            known = false;
            hideLengths[hides] = length;
            hides++;
            return hides - 1;
        }

        int addPiece(int length) {
            if (pieces >= MOST) {
                return FULL;
            }
            known = false;
            pieceLengths[pieces] = length;
            pieces++;
            return pieces - 1;
        }

        void empty() {
            known = false;
            hides = 0;
            pieces = 0;
        }

        void solve() {
            if (known) {
                return;
            }
            known = true;
            taken = leastSet();
            if (taken != NONE) {
                deal();
            }
        }

        private int leastSet() {
            int needed = 0;
            for (int i = 0; i < pieces; i++) {
                needed += pieceLengths[i];
            }
            int all = (1 << hides) - 1;
            if (!suffices(all)) {
                return NONE;
            }
            int best = all;
            // Of like ones the least SET comes first; all of them are longer together than any other SET.
            for (int set = 0; set < all; set++) {
                int length = lengthOf(set);
                if (length < lengthOf(best) && length >= needed && suffices(set)) {
                    best = set;
                }
            }
            return best;
        }

        private int lengthOf(int set) {
            int length = 0;
            for (int i = 0; i < hides; i++) {
                length += (set >> i & 1) != 0 ? hideLengths[i] : 0;
            }
            return length;
        }

        private boolean suffices(int set) {
            for (int i = 0; i < hides; i++) {
                left[i] = (set >> i & 1) != 0 ? hideLengths[i] : 0;
            }
            return fitsFrom(0);
        }

        /**
         * Whether the PIECES from the first on can be cut of what is left: hide by hide, for each SET of PIECES the
         * row that comes least far. One that comes less far can do whatever one can that came farther.
         */
        private boolean fitsFrom(int first) {
            int more = pieces - first;
            if (more <= 0) {
                return true;
            }
            int nowhere = hides * STEP;
            reached[0] = 0;
            for (int set = 1; set < 1 << more; set++) {
                reached[set] = nowhere;
                for (int i = 0; i < more; i++) {
                    if ((set >> i & 1) != 0) {
                        reached[set] = Math.min(reached[set], behind(reached[set ^ 1 << i], pieceLengths[first + i]));
                    }
                }
            }
            return reached[(1 << more) - 1] < nowhere;
        }

        private int behind(int so, int piece) {
            int into = so % STEP;
            for (int hide = so / STEP; hide < hides; hide++) {
                if (into + piece <= left[hide]) {
                    return hide * STEP + into + piece;
                }
                into = 0;
            }
            return hides * STEP;
        }

        /** PIECE by PIECE the first HIDE behind which all others can be cut still. */
        private void deal() {
            suffices(taken);
            for (int i = 0; i < pieces; i++) {
                from[i] = NONE;
                for (int hide = 0; hide < hides && from[i] == NONE; hide++) {
                    if (left[hide] < pieceLengths[i]) {
                        continue;
                    }
                    left[hide] -= pieceLengths[i];
                    if (fitsFrom(i + 1)) {
                        from[i] = hide;
                    } else {
                        left[hide] += pieceLengths[i];
                    }
                }
            }
        }
    }
}
