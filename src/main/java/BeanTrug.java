public final class BeanTrug {
    public static final int NONE = -1;

    private static final int NOTHING = -2;
    private static final int NO_SUCH = -3;
    private static final int NO_GAME = -1000;
    private static final int SORROWS = 8;
    private static final int CARRIERS = 4;
    private static final int SETS = 256;
    private static final int RULES = 6;
    private static final int IMAGES = 4;
    private static final int NOTES = 10;
    private static final int ACTS = 20;
    private static final int LAST_MINUTE = 9999;
    private static final int LAST_STEP = 999;
    private static final int MOST_AHEAD = 100;
    private static final int MOST_SLACK = 300;
    private static final int MOST_WAIT = 60;
    private static final int MOST_WEIGHT = 20;
    private static final int MOST_TIME = 40;
    private static final int MOST_LOAD = 200;
    private static final int MOST_PENCE = 9999;
    private static final int MOST_YEARS = 20;
    private static final int NOTED_STEPS = 61;

    private final Tape tape;
    private final TrugReader trugReader;
    private final RuleReader ruleReader;
    private final Told fresh;
    private final Rule[] rules;
    private int ruleCount;
    private final Scene scene;
    private final Scene[] images;
    private final boolean[] made;
    private final Past past;
    private final Walk walk;
    private final Sets sets;
    private final Bearing bearing;
    private final int[] paths;

    public BeanTrug() {
        tape = new Tape();
        fresh = new Told();
        trugReader = new TrugReader(tape, fresh);
        ruleReader = new RuleReader(tape);
        rules = new Rule[RULES];
        for (int i = 0; i < RULES; i++) {
            rules[i] = new Rule();
        }
        ruleCount = 0;
        scene = new Scene();
        images = new Scene[IMAGES];
        for (int i = 0; i < IMAGES; i++) {
            images[i] = new Scene();
        }
        made = new boolean[IMAGES];
        past = new Past();
        walk = new Walk();
        sets = new Sets();
        bearing = new Bearing();
        paths = new int[(RULES + 1) * NOTED_STEPS];
    }

    // ---- what is told ----

    public int feed(int a, int b, int c, int d, int e) {
        if (!tape.hasRoom(20)) {
            return NONE;
        }
        tape.put(a);
        tape.put(b);
        tape.put(c);
        tape.put(d);
        tape.put(e);
        return tape.length;
    }

    public int end(int n) {
        if (n < 0 || n > tape.length) {
            return NONE;
        }
        tape.length = n;
        return n;
    }

    public int trug() {
        // A text with a fault must leave the old trug whole, so it is read aside.
        int fault = trugReader.readAll();
        tape.length = 0;
        if (fault != 0) {
            return NOTHING - fault;
        }
        scene.told.copyFrom(fresh);
        scene.state.begin(scene.told);
        scene.noteCount = 0;
        past.forget();
        return scene.told.sorrows;
    }

    public int rule() {
        if (ruleCount < 0 || ruleCount >= RULES) {
            return NONE;
        }
        int fault = ruleReader.readAll(rules[ruleCount]);
        tape.length = 0;
        if (fault != 0) {
            return NOTHING - fault;
        }
        ruleCount++;
        return ruleCount - 1;
    }

    public int force(int rule) {
        if (rule < NONE || rule >= ruleCount) {
            return NOTHING;
        }
        int was = scene.force;
        scene.force = rule;
        return was;
    }

    public int sorrow(int sorrow, int what) {
        if (!scene.told.hasSorrow(sorrow)) {
            return NOTHING;
        }
        switch (what) {
            case 0:
                return scene.state.weight[sorrow];
            case 1:
                return scene.state.time[sorrow];
            case 2:
                return scene.told.deep[sorrow];
            case 3:
                return scene.state.standing(sorrow);
            case 4:
                return scene.state.at[sorrow];
            case 5:
                return scene.state.under[sorrow];
            default:
                return NOTHING;
        }
    }

    public int carrier(int carrier) {
        if (carrier < 0 || carrier >= scene.told.carriers) {
            return NONE;
        }
        return scene.told.strong[carrier];
    }

    // ---- acts ----

    public int step() {
        if (!scene.told.given || scene.state.step >= LAST_STEP) {
            return NONE;
        }
        past.keep(scene.state);
        startNow();
        int lifted = walk.goOn();
        scene.state.copyFrom(walk.state);
        return lifted == NONE ? NOTHING : lifted;
    }

    public int take(int sorrow) {
        if (!scene.state.isLoose(sorrow)) {
            return NONE;
        }
        past.keep(scene.state);
        scene.state.lift(sorrow, scene.told.dusk);
        return scene.state.minute;
    }

    public int await(int minutes) {
        if (!scene.told.given || minutes < 1 || minutes > MOST_WAIT) {
            return NONE;
        }
        if (scene.state.minute + minutes > LAST_MINUTE) {
            return NONE;
        }
        past.keep(scene.state);
        scene.state.pass(minutes);
        return scene.state.minute;
    }

    public int lay(int sorrow, int other) {
        if (sorrow == other || !scene.state.isIn(sorrow) || !scene.state.isIn(other)) {
            return NONE;
        }
        past.keep(scene.state);
        scene.state.under[sorrow] ^= 1 << other;
        return (scene.state.under[sorrow] >> other) & 1;
    }

    public int lighten(int sorrow, int weight) {
        if (weight < 1 || weight > MOST_WEIGHT || !scene.state.isIn(sorrow)) {
            return NONE;
        }
        int was = scene.state.weight[sorrow];
        if (was == weight) {
            return NONE;
        }
        past.keep(scene.state);
        scene.state.weight[sorrow] = weight;
        return was;
    }

    public int undo() {
        if (past.many == 0) {
            return NONE;
        }
        past.bringBack(scene.state);
        return past.many;
    }

    // ---- what steps would bring ----

    public int ahead(int n, int what) {
        if (!scene.told.given || n < 0 || n > MOST_AHEAD) {
            return NONE;
        }
        if (what < 0 || what > 3) {
            return NONE;
        }
        startNow();
        for (int i = 0; i < n; i++) {
            walk.goOn();
        }
        switch (what) {
            case 0:
                return walk.state.minute;
            case 1:
                return scene.told.deepOf(walk.state.letBe);
            case 2:
                return walk.state.load(scene.told.earth);
            default:
                return Integer.bitCount(walk.state.in);
        }
    }

    public int when(int sorrow, int what) {
        if (what < 0 || what > 1 || !scene.state.isIn(sorrow)) {
            return NONE;
        }
        startNow();
        for (int i = 0; i < MOST_AHEAD; i++) {
            // The number of the step that is made here, not of the one behind it.
            int step = walk.state.step;
            if (walk.goOn() == sorrow) {
                return what == 0 ? step : walk.state.minute;
            }
        }
        return NOTHING;
    }

    public int dusk(int what) {
        if (!scene.told.given || what < 0 || what > 2) {
            return NONE;
        }
        startNow();
        int last = NOTHING;
        for (int i = 0; i < MOST_AHEAD; i++) {
            int lifted = walk.goOn();
            if (lifted != NONE && walk.state.isLetBe(lifted)) {
                last = lifted;
            }
        }
        int gained = walk.state.letBe & ~scene.state.letBe;
        switch (what) {
            case 0:
                return Integer.bitCount(gained);
            case 1:
                return scene.told.deepOf(gained);
            default:
                return last;
        }
    }

    public int slack(int sorrow) {
        if (!scene.state.isIn(sorrow)) {
            return NONE;
        }
        int most = scene.told.dusk - scene.state.minute - scene.state.time[sorrow];
        // By a rule that asks the minute a longer wait may serve where a shorter fails.
        for (int wait = Math.min(MOST_SLACK, most); wait >= 0; wait--) {
            if (isLetBeAfter(wait, sorrow)) {
                return wait;
            }
        }
        return NOTHING;
    }

    public int light(int weight) {
        if (!scene.told.given || weight < 0 || weight > MOST_LOAD) {
            return NONE;
        }
        startNow();
        for (int i = 0; i < MOST_AHEAD; i++) {
            if (walk.state.load(scene.told.earth) <= weight) {
                return i;
            }
            walk.goOn();
        }
        return walk.state.load(scene.told.earth) <= weight ? MOST_AHEAD : NOTHING;
    }

    // ---- what could be at best ----

    public int order(int what) {
        if (!scene.told.given || what < NOTHING || what >= SORROWS) {
            return NO_SUCH;
        }
        sets.findRow(scene.told, scene.state);
        if (what == NONE) {
            return sets.rowDeep;
        }
        if (what == NOTHING) {
            return sets.rowTime;
        }
        return what < sets.rowLength ? sets.row[what] : NOTHING;
    }

    public int chain(int what) {
        if (!scene.told.given || what < 0 || what > 1) {
            return NONE;
        }
        sets.findChain(scene.state);
        return what == 0 ? sets.chainTime : sets.chainFirst;
    }

    public int rings() {
        if (!scene.told.given) {
            return NONE;
        }
        return sets.ringsAmong(scene.state.in, scene.state.under);
    }

    public int taken(int what) {
        if (!scene.told.given || what < 0 || what > 1) {
            return NONE;
        }
        int fewest = sets.fewestForNoRings(scene.state);
        return what == 0 ? Integer.bitCount(fewest) : fewest;
    }

    public int carry(int what) {
        if (!scene.told.given || what < NONE || what >= SORROWS) {
            return NO_SUCH;
        }
        if (what != NONE && !scene.state.isIn(what)) {
            return NOTHING;
        }
        bearing.part(scene.told, scene.state);
        return what == NONE ? bearing.carried : bearing.bearer[what];
    }

    public int pole(int what) {
        if (!scene.told.given || what < 0 || what > 1) {
            return NONE;
        }
        int fewest = bearing.fewestFor(scene.state.load(scene.told.earth), scene.told);
        if (fewest == NONE) {
            return NOTHING;
        }
        return what == 0 ? Integer.bitCount(fewest) : fewest;
    }

    public int game(int what) {
        if (!scene.told.given || what < 0 || what > 1) {
            return NO_GAME;
        }
        sets.findGame(scene.told, scene.state);
        return what == 0 ? sets.gameMore : sets.gameFirst;
    }

    public int pence(int much, int sorrow) {
        if (much < 0 || much > MOST_PENCE || !scene.told.hasSorrow(sorrow)) {
            return NONE;
        }
        int deepest = scene.told.deepOf(scene.state.letBe);
        if (deepest == 0 || !scene.state.isLetBe(sorrow)) {
            return 0;
        }
        return much * scene.told.deep[sorrow] / deepest + penny(much, sorrow, deepest);
    }

    // ---- what notes tell ----

    public int note(int n, int sorrow) {
        if (n == NONE) {
            scene.noteCount = 0;
            return 0;
        }
        if (!scene.told.given || n < 0 || n >= NOTED_STEPS || scene.noteCount >= NOTES) {
            return NOTHING;
        }
        if (sorrow != NONE && !scene.told.hasSorrow(sorrow)) {
            return NOTHING;
        }
        scene.keepNote(n, sorrow);
        return scene.noteCount;
    }

    public int took(int sorrow, int what) {
        if (what < 0 || what > 1 || !scene.told.hasSorrow(sorrow)) {
            return NONE;
        }
        int many = 0;
        int least = NOTHING;
        for (int time = MOST_TIME; time >= 1; time--) {
            startFromBegin(scene.force);
            walk.state.time[sorrow] = time;
            if (allNotesAreSo()) {
                many++;
                least = time;
            }
        }
        return what == 0 ? many : least;
    }

    public int ruled(int what) {
        if (!scene.told.given || what < 0 || what > 1) {
            return NO_SUCH;
        }
        int many = 0;
        int first = NOTHING;
        for (int rule = ruleCount - 1; rule >= NONE; rule--) {
            startFromBegin(rule);
            if (allNotesAreSo()) {
                many++;
                first = rule;
            }
        }
        return what == 0 ? many : first;
    }

    public int look(int what) {
        if (!scene.told.given || what < 0 || what > 1) {
            return NONE;
        }
        int many = 0;
        for (int rule = NONE; rule < ruleCount; rule++) {
            startFromBegin(rule);
            if (allNotesAreSo()) {
                startFromBegin(rule);
                tracePath(many);
                many++;
            }
        }
        if (many == 0) {
            return NOTHING;
        }
        int best = bestStepToLook(many);
        return what == 0 ? best : mostAlike(many, best);
    }

    // ---- draws ----

    public int seed(int x) {
        if (x < 0) {
            return NONE;
        }
        int was = scene.x;
        scene.x = x;
        return was;
    }

    public int years(int m, int what) {
        if (!scene.told.given || m < 1 || m > MOST_YEARS) {
            return NONE;
        }
        if (what < 0 || what > 1) {
            return NONE;
        }
        int all = 0;
        int x = scene.x;
        for (int i = 0; i < m; i++) {
            startNow();
            x = walk.goByDraws(x);
            all += what == 0 ? scene.told.deepOf(walk.state.letBe) : walk.state.minute;
        }
        return all;
    }

    // ---- how it stands ----

    public int count(int what) {
        switch (what) {
            case 0:
                return scene.told.dusk;
            case 1:
                return scene.told.earth;
            case 2:
                return scene.told.sorrows;
            case 3:
                return scene.told.carriers;
            case 4:
                return ruleCount;
            case 5:
                return scene.force;
            case 6:
                return scene.state.minute;
            case 7:
                return scene.state.step;
            case 8:
                return scene.state.in;
            default:
                return countMore(what);
        }
    }

    public int image(int k) {
        if (k < 0 || k >= IMAGES) {
            return NONE;
        }
        images[k].copyFrom(scene);
        made[k] = true;
        return scene.state.minute;
    }

    public int back(int k) {
        if (k < 0 || k >= IMAGES || !made[k]) {
            return NONE;
        }
        scene.copyFrom(images[k]);
        past.forget();
        return scene.state.minute;
    }

    // ---- helpers ----

    private int countMore(int what) {
        switch (what) {
            case 9:
                return scene.state.looseBits();
            case 10:
                return scene.told.deepOf(scene.state.letBe);
            case 11:
                return scene.state.load(scene.told.earth);
            case 12:
                return scene.noteCount;
            case 13:
                return past.many;
            case 14:
                return scene.x;
            case 15:
                return tape.length;
            default:
                return NONE;
        }
    }

    private Rule ruleNumbered(int number) {
        return number >= 0 && number < ruleCount && number < RULES ? rules[number] : null;
    }

    private void startNow() {
        walk.start(scene.told, scene.state, ruleNumbered(scene.force));
    }

    private void startFromBegin(int rule) {
        walk.startAnew(scene.told, ruleNumbered(rule));
    }

    private boolean isLetBeAfter(int wait, int sorrow) {
        startNow();
        walk.state.pass(wait);
        // The minute never falls, so once it is too late all further steps are in vain.
        int latest = scene.told.dusk - walk.state.time[sorrow];
        for (int i = 0; i < MOST_AHEAD && walk.state.minute <= latest && !walk.still; i++) {
            if (walk.goOn() == sorrow) {
                return walk.state.isLetBe(sorrow);
            }
        }
        return false;
    }

    private int penny(int much, int sorrow, int deepest) {
        int left = much;
        int ahead = 0;
        int lost = much * scene.told.deep[sorrow] % deepest;
        for (int i = 0; i < SORROWS; i++) {
            if (scene.state.isLetBe(i)) {
                int product = much * scene.told.deep[i];
                left -= product / deepest;
                int lostToo = product % deepest;
                if (lostToo > lost || (lostToo == lost && i < sorrow)) {
                    ahead++;
                }
            }
        }
        return ahead < left ? 1 : 0;
    }

    private boolean allNotesAreSo() {
        int last = scene.lastNoted();
        for (int n = 0; n <= last; n++) {
            if (!scene.agrees(n, walk.goOn())) {
                return false;
            }
        }
        return true;
    }

    private void tracePath(int which) {
        if (which < 0 || which > RULES) {
            return;
        }
        for (int n = 0; n < NOTED_STEPS; n++) {
            paths[which * NOTED_STEPS + n] = walk.goOn();
        }
    }

    private int bestStepToLook(int many) {
        int best = 0;
        int fewest = many + 1;
        for (int n = 0; n < NOTED_STEPS; n++) {
            int alike = mostAlike(many, n);
            if (alike < fewest) {
                fewest = alike;
                best = n;
            }
        }
        return best;
    }

    private int mostAlike(int many, int n) {
        int most = 0;
        for (int i = 0; i < many && i <= RULES; i++) {
            int alike = 0;
            for (int j = 0; j < many && j <= RULES; j++) {
                if (paths[i * NOTED_STEPS + n] == paths[j * NOTED_STEPS + n]) {
                    alike++;
                }
            }
            most = Math.max(most, alike);
        }
        return most;
    }

    /** The bytes told, and the pieces that they are cut into to be read. */
    private static final class Tape {
        static final int ROOM = 400;
        static final int MOST_DIGITS = 5;
        static final int TOO_LONG = -1;
        static final int END = 0;
        static final int WORD = 1;
        static final int NUMBER = 2;
        static final int SIGN = 3;
        // A rule's code takes the first twelve of these by their place here.
        static final String WORDS =
                "sorrow weight time deep over many loose left load rest minute step trug under carrier lift if or and not";
        static final int SORROW = 0;
        static final int TRUG = 12;
        static final int UNDER = 13;
        static final int CARRIER = 14;
        static final int LIFT = 15;
        static final int IF = 16;
        static final int OR = 17;
        static final int AND = 18;
        static final int NOT = 19;

        private final byte[] bytes;
        private final int[] kinds;
        private final int[] begins;
        private final int[] values;
        private int pieces;
        private int at;
        int length;
        int kind;
        int value;
        int fault;

        Tape() {
            bytes = new byte[ROOM];
            kinds = new int[ROOM + 1];
            begins = new int[ROOM + 1];
            values = new int[ROOM + 1];
        }

        boolean hasRoom(int more) {
            return length + more <= ROOM;
        }

        void put(int four) {
            for (int shift = 24; shift >= 0; shift -= 8) {
                if (length >= 0 && length < ROOM) {
                    bytes[length] = (byte) (four >> shift);
                    length++;
                }
            }
        }

        private int byteAt(int place) {
            return place >= 0 && place < length && place < ROOM ? bytes[place] & 255 : NONE;
        }

        private boolean isLetter(int place) {
            return byteAt(place) >= 'a' && byteAt(place) <= 'z';
        }

        private boolean isDigit(int place) {
            return byteAt(place) >= '0' && byteAt(place) <= '9';
        }

        /** Cuts all bytes into pieces and goes to the first of these. */
        void rewind() {
            fault = 0;
            pieces = 0;
            int place = 0;
            for (int i = 0; i <= ROOM && place <= length; i++) {
                place = cutPiece(place);
            }
            at = NONE;
            goOn();
        }

        private int cutPiece(int from) {
            int begin = from;
            while (begin < ROOM && byteAt(begin) == ' ') {
                begin++;
            }
            int behind = begin + 1;
            if (byteAt(begin) == NONE) {
                addPiece(END, begin, 0);
            } else if (isLetter(begin)) {
                while (behind < ROOM && isLetter(behind)) {
                    behind++;
                }
                addPiece(WORD, begin, wordAt(begin, behind));
            } else if (isDigit(begin)) {
                while (behind < ROOM && isDigit(behind)) {
                    behind++;
                }
                addPiece(NUMBER, begin, numberAt(begin, behind));
            } else {
                behind += isWithEqual(begin) ? 1 : 0;
                // A sign of two bytes is told by a number that no single byte has.
                addPiece(SIGN, begin, byteAt(begin) + (behind - begin - 1) * ROOM);
            }
            return behind;
        }

        private boolean isWithEqual(int place) {
            return (byteAt(place) == '<' || byteAt(place) == '>') && byteAt(place + 1) == '=';
        }

        private void addPiece(int what, int begin, int worth) {
            if (pieces >= 0 && pieces <= ROOM) {
                kinds[pieces] = what;
                begins[pieces] = begin;
                values[pieces] = worth;
                pieces++;
            }
        }

        private int numberAt(int begin, int behind) {
            if (behind - begin > MOST_DIGITS) {
                return TOO_LONG;
            }
            int number = 0;
            for (int i = begin; i < behind; i++) {
                number = number * 10 + byteAt(i) - '0';
            }
            return number;
        }

        private int wordAt(int begin, int behind) {
            int which = 0;
            int from = 0;
            for (int i = 0; i <= WORDS.length(); i++) {
                if (i == WORDS.length() || WORDS.charAt(i) == ' ') {
                    if (i - from == behind - begin && isSpelt(begin, from, i)) {
                        return which;
                    }
                    which++;
                    from = i + 1;
                }
            }
            return NONE;
        }

        private boolean isSpelt(int begin, int from, int to) {
            for (int i = from; i < to && i < WORDS.length(); i++) {
                if (WORDS.charAt(i) != byteAt(begin + i - from)) {
                    return false;
                }
            }
            return true;
        }

        void goOn() {
            if (at + 1 >= 0 && at + 1 < pieces && at < ROOM) {
                at++;
                kind = kinds[at];
                value = values[at];
            }
        }

        boolean isWell() {
            return fault == 0;
        }

        /** Keeps a fault of the piece here, if it is the first. */
        void fail(int why) {
            if (fault == 0 && at >= 0 && at <= ROOM) {
                fault = 1 + 8 * begins[at] + why;
            }
        }

        boolean isSign(int sign) {
            return kind == SIGN && value == sign;
        }

        boolean isWord(int word) {
            return kind == WORD && value == word;
        }

        /** Goes on to the next clause, if there is one; else the end is due. */
        boolean goToClause() {
            if (!isWell()) {
                return false;
            }
            if (isSign(';')) {
                goOn();
                return true;
            }
            if (kind != END) {
                fail(0);
            }
            return false;
        }
    }

    /** Reads a tape as a trug. */
    private static final class TrugReader {
        static final int MOST_CLAUSES = 40;
        static final int MOST_DUSK = 300;
        static final int MOST_EARTH = 20;
        static final int MOST_DEEP = 30;
        static final int MOST_STRONG = 60;

        private final Tape tape;
        private final Told told;
        private int clauses;

        TrugReader(Tape tape, Told told) {
            this.tape = tape;
            this.told = told;
        }

        /** Answers the fault, or 0. */
        int readAll() {
            told.clear();
            told.given = true;
            clauses = 0;
            tape.rewind();
            boolean more = true;
            for (int i = 0; i <= MOST_CLAUSES && more; i++) {
                readClause();
                more = tape.goToClause();
            }
            return tape.fault;
        }

        private void readClause() {
            int word = tape.kind == Tape.WORD ? tape.value : NONE;
            if (word != Tape.TRUG && word != Tape.SORROW && word != Tape.UNDER && word != Tape.CARRIER) {
                tape.fail(0);
                return;
            }
            if (isTooMany(word)) {
                tape.fail(4);
                return;
            }
            clauses++;
            tape.goOn();
            if (word == Tape.TRUG) {
                told.dusk = readNumber(1, MOST_DUSK);
                told.earth = readNumber(0, MOST_EARTH);
            } else if (word == Tape.SORROW) {
                readSorrow();
            } else if (word == Tape.UNDER) {
                readUnder();
            } else {
                readCarrier();
            }
        }

        private boolean isTooMany(int word) {
            if (clauses >= MOST_CLAUSES || (word == Tape.TRUG) != (clauses == 0)) {
                return true;
            }
            return (word == Tape.SORROW && told.sorrows >= SORROWS)
                    || (word == Tape.CARRIER && told.carriers >= CARRIERS);
        }

        private int readNumber(int least, int most) {
            if (tape.kind != Tape.NUMBER) {
                tape.fail(0);
                return least;
            }
            int number = tape.value;
            if (number < least || number > most) {
                tape.fail(1);
                return least;
            }
            tape.goOn();
            return number;
        }

        private void readSorrow() {
            int weight = readNumber(1, MOST_WEIGHT);
            int time = readNumber(1, MOST_TIME);
            int deep = readNumber(0, MOST_DEEP);
            if (tape.isWell() && told.sorrows >= 0 && told.sorrows < SORROWS) {
                told.weight[told.sorrows] = weight;
                told.time[told.sorrows] = time;
                told.deep[told.sorrows] = deep;
                told.sorrows++;
            }
        }

        private void readUnder() {
            int sorrow = readNumber(0, told.sorrows - 1);
            if (tape.kind == Tape.NUMBER && tape.value == sorrow) {
                tape.fail(1);
            }
            int other = readNumber(0, told.sorrows - 1);
            if (tape.isWell() && told.hasSorrow(sorrow)) {
                told.under[sorrow] |= 1 << other;
            }
        }

        private void readCarrier() {
            int strong = readNumber(1, MOST_STRONG);
            if (tape.isWell() && told.carriers >= 0 && told.carriers < CARRIERS) {
                told.strong[told.carriers] = strong;
                told.carriers++;
            }
        }
    }

    /** Reads a tape as a rule. */
    private static final class RuleReader {
        static final int MOST_CLAUSES = 12;
        static final int MOST_DEPTH = 10;
        static final int MOST_PIECES = 60;

        private final Tape tape;
        private Rule rule;
        private int clauses;
        private int pieces;

        RuleReader(Tape tape) {
            this.tape = tape;
        }

        /** Answers the fault, or 0. */
        int readAll(Rule into) {
            rule = into;
            rule.clear();
            clauses = 0;
            pieces = 0;
            tape.rewind();
            boolean more = true;
            for (int i = 0; i <= MOST_CLAUSES && more; i++) {
                readClause();
                more = tape.goToClause();
            }
            return tape.fault;
        }

        private void readClause() {
            if (!tape.isWord(Tape.LIFT)) {
                tape.fail(0);
                return;
            }
            if (clauses >= MOST_CLAUSES) {
                tape.fail(4);
                return;
            }
            clauses++;
            tape.goOn();
            readSum();
            if (tape.isWell() && tape.isWord(Tape.IF)) {
                tape.goOn();
                readTest(0);
                rule.add(Rule.IF);
            } else {
                rule.add(Rule.ALWAYS);
            }
        }

        private void readTest(int depth) {
            readPart(depth);
            for (int i = 0; i < Tape.ROOM && tape.isWell() && tape.isWord(Tape.OR); i++) {
                tape.goOn();
                readPart(depth);
                rule.add(Rule.OR);
            }
        }

        private void readPart(int depth) {
            readFact(depth);
            for (int i = 0; i < Tape.ROOM && tape.isWell() && tape.isWord(Tape.AND); i++) {
                tape.goOn();
                readFact(depth);
                rule.add(Rule.AND);
            }
        }

        private void readFact(int depth) {
            boolean isNot = tape.isWord(Tape.NOT);
            if (!isNot && !tape.isSign('[')) {
                readComparison();
                return;
            }
            if (depth >= MOST_DEPTH) {
                tape.fail(2);
                return;
            }
            tape.goOn();
            if (isNot) {
                readFact(depth + 1);
                rule.add(Rule.NOT);
            } else {
                readTest(depth + 1);
                readClosing();
            }
        }

        private void readClosing() {
            if (tape.isSign(']')) {
                tape.goOn();
            } else {
                tape.fail(0);
            }
        }

        private void readComparison() {
            readSum();
            if (!tape.isWell()) {
                return;
            }
            int code = comparisonHere();
            if (code == NONE) {
                tape.fail(0);
                return;
            }
            if (pieces >= MOST_PIECES) {
                tape.fail(3);
            }
            pieces++;
            tape.goOn();
            readSum();
            rule.add(code);
        }

        private int comparisonHere() {
            if (tape.kind != Tape.SIGN) {
                return NONE;
            }
            switch (tape.value) {
                case '<':
                    return Rule.BELOW;
                case '<' + Tape.ROOM:
                    return Rule.NOT_ABOVE;
                case '=':
                    return Rule.EQUAL;
                case '>' + Tape.ROOM:
                    return Rule.NOT_BELOW;
                case '>':
                    return Rule.ABOVE;
                default:
                    return NONE;
            }
        }

        private void readSum() {
            readTerm();
            for (int i = 0; i < Tape.ROOM && tape.isWell(); i++) {
                int code = tape.isSign('+') ? Rule.PLUS : tape.isSign('-') ? Rule.MINUS : NONE;
                if (code == NONE) {
                    return;
                }
                tape.goOn();
                readTerm();
                rule.add(code);
            }
        }

        private void readTerm() {
            readValue();
            for (int i = 0; i < Tape.ROOM && tape.isWell(); i++) {
                int code = tape.isSign('*') ? Rule.TIMES
                        : tape.isSign('/') ? Rule.PARTED : tape.isSign('%') ? Rule.REMAINS : NONE;
                if (code == NONE) {
                    return;
                }
                tape.goOn();
                readValue();
                rule.add(code);
            }
        }

        // Of one place the least fault counts, so one value too many is looked for last.
        private void readValue() {
            boolean isNumber = tape.kind == Tape.NUMBER;
            boolean isWord = tape.kind == Tape.WORD && tape.value >= 0 && tape.value < Rule.WORDS;
            if (!isNumber && !isWord) {
                tape.fail(0);
            }
            if (isNumber && tape.value == Tape.TOO_LONG) {
                tape.fail(1);
            }
            if (pieces >= MOST_PIECES) {
                tape.fail(3);
            }
            pieces++;
            rule.add(isNumber ? Rule.NUMBER + tape.value : tape.value);
            tape.goOn();
        }
    }

    /** A rule as code for a stack: words by their number, numbers beyond all signs. */
    private static final class Rule {
        static final int WORDS = 12;
        static final int SORROW = 0;
        static final int WEIGHT = 1;
        static final int TIME = 2;
        static final int DEEP = 3;
        static final int OVER = 4;
        static final int MANY = 5;
        static final int LOOSE = 6;
        static final int LEFT = 7;
        static final int LOAD = 8;
        static final int REST = 9;
        static final int MINUTE = 10;
        static final int STEP = 11;
        static final int PLUS = 12;
        static final int MINUS = 13;
        static final int TIMES = 14;
        static final int PARTED = 15;
        static final int REMAINS = 16;
        static final int BELOW = 17;
        static final int NOT_ABOVE = 18;
        static final int EQUAL = 19;
        static final int NOT_BELOW = 20;
        static final int ABOVE = 21;
        static final int AND = 22;
        static final int OR = 23;
        static final int NOT = 24;
        static final int IF = 25;
        static final int ALWAYS = 26;
        static final int NUMBER = 100;
        // Each bracket, ten deep, keeps two facts waiting, and a comparison four numbers more.
        static final int STACK = 64;

        private final int[] code;
        private final long[] stack;
        private int length;
        boolean asksTheHour;

        Rule() {
            // Every piece of code comes from a byte of its own at least.
            code = new int[Tape.ROOM];
            stack = new long[STACK];
        }

        void clear() {
            length = 0;
            asksTheHour = false;
        }

        void add(int piece) {
            if (length >= 0 && length < code.length) {
                code[length] = piece;
                length++;
            }
            if (piece == LEFT || piece == MINUTE || piece == STEP) {
                asksTheHour = true;
            }
        }

        /** The sum of the first clause that holds, 0 without one. */
        long worth(long[] words) {
            int top = 0;
            for (int i = 0; i < length && i < code.length; i++) {
                int piece = code[i];
                if (piece >= NUMBER || piece < PLUS) {
                    if (top < STACK) {
                        stack[top] = piece >= NUMBER ? piece - NUMBER : wordAmong(words, piece);
                        top++;
                    }
                } else if (piece == ALWAYS) {
                    return top >= 1 ? stack[top - 1] : 0;
                } else if (piece == IF) {
                    if (top >= 2 && stack[top - 1] != 0) {
                        return stack[top - 2];
                    }
                    top = 0;
                } else if (piece == NOT) {
                    if (top >= 1) {
                        stack[top - 1] = 1 - stack[top - 1];
                    }
                } else if (top >= 2) {
                    top--;
                    stack[top - 1] = joined(piece, stack[top - 1], stack[top]);
                }
            }
            return 0;
        }

        private static long wordAmong(long[] words, int which) {
            return which >= 0 && which < words.length ? words[which] : 0;
        }

        private static long joined(int piece, long a, long b) {
            switch (piece) {
                case PLUS:
                    return a + b;
                case MINUS:
                    return a - b;
                case TIMES:
                    return a * b;
                case PARTED:
                    return b == 0 ? 0 : a / b;
                case REMAINS:
                    return b == 0 ? 0 : a % b;
                case BELOW:
                    return a < b ? 1 : 0;
                case NOT_ABOVE:
                    return a <= b ? 1 : 0;
                case EQUAL:
                    return a == b ? 1 : 0;
                case NOT_BELOW:
                    return a >= b ? 1 : 0;
                case ABOVE:
                    return a > b ? 1 : 0;
                case AND:
                    return a & b;
                default:
                    return a | b;
            }
        }
    }

    /** A trug as its text told it. */
    private static final class Told {
        boolean given;
        int dusk;
        int earth;
        int sorrows;
        int carriers;
        final int[] weight;
        final int[] time;
        final int[] deep;
        final int[] under;
        final int[] strong;

        Told() {
            weight = new int[SORROWS];
            time = new int[SORROWS];
            deep = new int[SORROWS];
            under = new int[SORROWS];
            strong = new int[CARRIERS];
        }

        void clear() {
            given = false;
            dusk = 0;
            earth = 0;
            sorrows = 0;
            carriers = 0;
            for (int i = 0; i < SORROWS; i++) {
                weight[i] = 0;
                time[i] = 0;
                deep[i] = 0;
                under[i] = 0;
            }
            for (int i = 0; i < CARRIERS; i++) {
                strong[i] = 0;
            }
        }

        void copyFrom(Told other) {
            given = other.given;
            dusk = other.dusk;
            earth = other.earth;
            sorrows = other.sorrows;
            carriers = other.carriers;
            System.arraycopy(other.weight, 0, weight, 0, SORROWS);
            System.arraycopy(other.time, 0, time, 0, SORROWS);
            System.arraycopy(other.deep, 0, deep, 0, SORROWS);
            System.arraycopy(other.under, 0, under, 0, SORROWS);
            System.arraycopy(other.strong, 0, strong, 0, CARRIERS);
        }

        boolean hasSorrow(int sorrow) {
            return sorrow >= 0 && sorrow < sorrows && sorrow < SORROWS;
        }

        int deepOf(int bits) {
            int all = 0;
            for (int i = 0; i < SORROWS; i++) {
                if ((bits >> i & 1) != 0) {
                    all += deep[i];
                }
            }
            return all;
        }
    }

    /** How far it has come with a trug; what acts change. */
    private static final class State {
        int minute;
        int step;
        int in;
        int letBe;
        final int[] at;
        final int[] under;
        final int[] weight;
        final int[] time;

        State() {
            at = new int[SORROWS];
            under = new int[SORROWS];
            weight = new int[SORROWS];
            time = new int[SORROWS];
        }

        void begin(Told told) {
            minute = 0;
            step = 0;
            in = (1 << told.sorrows) - 1;
            letBe = 0;
            for (int i = 0; i < SORROWS; i++) {
                at[i] = NONE;
            }
            System.arraycopy(told.under, 0, under, 0, SORROWS);
            System.arraycopy(told.weight, 0, weight, 0, SORROWS);
            System.arraycopy(told.time, 0, time, 0, SORROWS);
        }

        void copyFrom(State other) {
            minute = other.minute;
            step = other.step;
            in = other.in;
            letBe = other.letBe;
            System.arraycopy(other.at, 0, at, 0, SORROWS);
            System.arraycopy(other.under, 0, under, 0, SORROWS);
            System.arraycopy(other.weight, 0, weight, 0, SORROWS);
            System.arraycopy(other.time, 0, time, 0, SORROWS);
        }

        boolean isIn(int sorrow) {
            return sorrow >= 0 && sorrow < SORROWS && (in >> sorrow & 1) != 0;
        }

        boolean isLetBe(int sorrow) {
            return sorrow >= 0 && sorrow < SORROWS && (letBe >> sorrow & 1) != 0;
        }

        boolean isLoose(int sorrow) {
            return isIn(sorrow) && (under[sorrow] & in) == 0;
        }

        int standing(int sorrow) {
            return isIn(sorrow) ? 0 : isLetBe(sorrow) ? 1 : 2;
        }

        int looseBits() {
            int bits = 0;
            for (int i = 0; i < SORROWS; i++) {
                if (isLoose(i)) {
                    bits |= 1 << i;
                }
            }
            return bits;
        }

        int load(int earth) {
            int all = earth;
            for (int i = 0; i < SORROWS; i++) {
                if ((in >> i & 1) != 0) {
                    all += weight[i];
                }
            }
            return all;
        }

        int overOf(int sorrow) {
            int many = 0;
            for (int i = 0; i < SORROWS; i++) {
                if ((in >> i & 1) != 0 && (under[i] >> sorrow & 1) != 0) {
                    many++;
                }
            }
            return many;
        }

        void pass(int minutes) {
            minute = Math.min(LAST_MINUTE, minute + minutes);
        }

        void lift(int sorrow, int dusk) {
            if (!isIn(sorrow)) {
                return;
            }
            pass(time[sorrow]);
            in &= ~(1 << sorrow);
            if (minute <= dusk) {
                letBe |= 1 << sorrow;
            }
            at[sorrow] = minute;
        }
    }

    /** All that an image keeps. */
    private static final class Scene {
        final Told told;
        final State state;
        int force;
        int x;
        int noteCount;
        final int[] noteStep;
        final int[] noteSorrow;

        Scene() {
            told = new Told();
            state = new State();
            force = NONE;
            noteStep = new int[NOTES];
            noteSorrow = new int[NOTES];
        }

        void copyFrom(Scene other) {
            told.copyFrom(other.told);
            state.copyFrom(other.state);
            force = other.force;
            x = other.x;
            noteCount = other.noteCount;
            System.arraycopy(other.noteStep, 0, noteStep, 0, NOTES);
            System.arraycopy(other.noteSorrow, 0, noteSorrow, 0, NOTES);
        }

        void keepNote(int n, int sorrow) {
            if (noteCount >= 0 && noteCount < NOTES) {
                noteStep[noteCount] = n;
                noteSorrow[noteCount] = sorrow;
                noteCount++;
            }
        }

        int lastNoted() {
            int last = NONE;
            for (int i = 0; i < noteCount && i < NOTES; i++) {
                last = Math.max(last, noteStep[i]);
            }
            return last;
        }

        boolean agrees(int n, int lifted) {
            for (int i = 0; i < noteCount && i < NOTES; i++) {
                if (noteStep[i] == n && noteSorrow[i] != lifted) {
                    return false;
                }
            }
            return true;
        }
    }

    /** How it stood ahead of the last acts. */
    private static final class Past {
        private final State[] states;
        private int next;
        int many;

        Past() {
            states = new State[ACTS];
            for (int i = 0; i < ACTS; i++) {
                states[i] = new State();
            }
        }

        void forget() {
            many = 0;
        }

        void keep(State state) {
            if (next < 0 || next >= ACTS) {
                next = 0;
            }
            states[next].copyFrom(state);
            next = (next + 1) % ACTS;
            many = Math.min(ACTS, many + 1);
        }

        void bringBack(State state) {
            next = next > 0 ? next - 1 : ACTS - 1;
            if (many > 0 && next < ACTS) {
                state.copyFrom(states[next]);
                many--;
            }
        }
    }

    /** A going on by steps, aside from how it stands. */
    private static final class Walk {
        final State state;
        // Nothing is lifted any more, however long it goes on.
        boolean still;
        private final long[] words;
        private Told told;
        private Rule rule;

        Walk() {
            state = new State();
            words = new long[Rule.WORDS];
            told = new Told();
        }

        void start(Told of, State from, Rule by) {
            told = of;
            rule = by;
            still = false;
            state.copyFrom(from);
        }

        void startAnew(Told of, Rule by) {
            told = of;
            rule = by;
            still = false;
            state.begin(of);
        }

        /** One step: what is lifted, or NONE. */
        int goOn() {
            int chosen = still ? NONE : chosenNow();
            if (chosen == NONE) {
                state.pass(1);
            } else {
                state.lift(chosen, told.dusk);
            }
            state.step++;
            return chosen;
        }

        private int chosenNow() {
            int loose = state.looseBits();
            if (loose == 0) {
                still = true;
                return NONE;
            }
            if (rule == null) {
                return leastOf(loose);
            }
            int chosen = chosenOf(loose);
            still = chosen == NONE && !rule.asksTheHour;
            return chosen;
        }

        private static int leastOf(int bits) {
            return Integer.numberOfTrailingZeros(bits);
        }

        private int chosenOf(int loose) {
            tellAll(loose);
            int chosen = NONE;
            long most = 0;
            for (int i = 0; i < SORROWS; i++) {
                if ((loose >> i & 1) != 0) {
                    tellOf(i);
                    long worth = rule.worth(words);
                    if (worth > most) {
                        most = worth;
                        chosen = i;
                    }
                }
            }
            return chosen;
        }

        private void tellAll(int loose) {
            words[Rule.MANY] = Integer.bitCount(state.in);
            words[Rule.LOOSE] = Integer.bitCount(loose);
            words[Rule.LEFT] = told.dusk - state.minute;
            words[Rule.LOAD] = state.load(told.earth);
            words[Rule.REST] = told.deepOf(state.letBe);
            words[Rule.MINUTE] = state.minute;
            words[Rule.STEP] = state.step;
        }

        private void tellOf(int sorrow) {
            words[Rule.SORROW] = sorrow;
            words[Rule.WEIGHT] = state.weight[sorrow];
            words[Rule.TIME] = state.time[sorrow];
            words[Rule.DEEP] = told.deep[sorrow];
            words[Rule.OVER] = state.overOf(sorrow);
        }

        /** Lifts by draws till none is loose: what x has become. */
        int goByDraws(int begin) {
            int x = begin;
            for (int i = 0; i < SORROWS; i++) {
                int loose = state.looseBits();
                int many = Integer.bitCount(loose);
                if (many == 0) {
                    return x;
                }
                x = (int) ((x * 1103515245L + 12345L) & 2147483647L);
                for (int skip = x / 65536 % many; skip > 0; skip--) {
                    loose &= loose - 1;
                }
                state.lift(leastOf(loose), told.dusk);
            }
            return x;
        }
    }

    /** What is best among all sets of sorrows. */
    private static final class Sets {
        final int[] row;
        int rowLength;
        int rowDeep;
        int rowTime;
        int chainTime;
        int chainFirst;
        int gameMore;
        int gameFirst;
        private final int[] deepSum;
        private final int[] timeSum;
        private final int[] value;
        private final boolean[] open;
        private final boolean[] good;
        private final int[] reach;

        Sets() {
            row = new int[SORROWS];
            deepSum = new int[SETS];
            timeSum = new int[SETS];
            value = new int[SETS];
            open = new boolean[SETS];
            good = new boolean[SETS];
            reach = new int[SORROWS];
        }

        private static boolean has(int bits, int sorrow) {
            return (bits >> sorrow & 1) != 0;
        }

        static void addUp(int[] each, int[] sums) {
            sums[0] = 0;
            for (int set = 1; set < SETS; set++) {
                int least = Integer.numberOfTrailingZeros(set);
                sums[set] = sums[set & (set - 1)] + each[least];
            }
        }

        void findRow(Told told, State state) {
            addUp(told.deep, deepSum);
            addUp(state.time, timeSum);
            findOpenSets(told, state);
            findBestSums();
            markGoodSets(state);
            layOutRow(state);
        }

        /** Which sets can have been lifted, one by one, each loose, none late. */
        private void findOpenSets(Told told, State state) {
            for (int set = 0; set < SETS; set++) {
                open[set] = set == 0;
                boolean fits = (set & ~state.in) == 0 && state.minute + timeSum[set] <= told.dusk;
                for (int i = 0; i < SORROWS && fits && !open[set]; i++) {
                    int before = set & ~(1 << i);
                    open[set] = has(set, i) && open[before] && (state.under[i] & state.in & ~before) == 0;
                }
            }
        }

        private void findBestSums() {
            rowDeep = 0;
            rowTime = 0;
            for (int set = 1; set < SETS; set++) {
                boolean better = deepSum[set] > rowDeep
                        || (deepSum[set] == rowDeep && timeSum[set] < rowTime);
                if (open[set] && better) {
                    rowDeep = deepSum[set];
                    rowTime = timeSum[set];
                }
            }
        }

        private boolean isBest(int set) {
            return open[set] && deepSum[set] == rowDeep && timeSum[set] == rowTime;
        }

        private boolean leadsOn(State state, int set, int sorrow) {
            return state.isIn(sorrow) && !has(set, sorrow)
                    && (state.under[sorrow] & state.in & ~set) == 0 && good[set | 1 << sorrow];
        }

        /** Which open sets can be gone on from to a best one. */
        private void markGoodSets(State state) {
            for (int set = SETS - 1; set >= 0; set--) {
                good[set] = isBest(set);
                for (int i = 0; i < SORROWS && open[set] && !good[set]; i++) {
                    good[set] = leadsOn(state, set, i);
                }
            }
        }

        private void layOutRow(State state) {
            int set = 0;
            rowLength = 0;
            for (int i = 0; i < SORROWS && !isBest(set); i++) {
                int next = NONE;
                for (int s = SORROWS - 1; s >= 0; s--) {
                    if (leadsOn(state, set, s)) {
                        next = s;
                    }
                }
                if (next == NONE) {
                    return;
                }
                row[rowLength] = next;
                rowLength++;
                set |= 1 << next;
            }
        }

        /** For each set: with which of it a chain of just these can begin. */
        void findChain(State state) {
            addUp(state.time, timeSum);
            chainTime = 0;
            chainFirst = NOTHING;
            for (int set = 1; set < SETS; set++) {
                value[set] = (set & ~state.in) == 0 ? beginnersOf(set, state) : 0;
                if (value[set] != 0) {
                    keepChain(timeSum[set], Integer.numberOfTrailingZeros(value[set]));
                }
            }
        }

        private void keepChain(int time, int first) {
            if (time > chainTime || (time == chainTime && first < chainFirst)) {
                chainTime = time;
                chainFirst = first;
            }
        }

        private int beginnersOf(int set, State state) {
            if ((set & (set - 1)) == 0) {
                return set;
            }
            int beginners = 0;
            for (int i = 0; i < SORROWS; i++) {
                if (has(set, i) && (value[set & ~(1 << i)] & lyingUnder(i, state)) != 0) {
                    beginners |= 1 << i;
                }
            }
            return beginners;
        }

        private static int lyingUnder(int sorrow, State state) {
            int bits = 0;
            for (int i = 0; i < SORROWS; i++) {
                if (has(state.under[i], sorrow)) {
                    bits |= 1 << i;
                }
            }
            return bits;
        }

        int ringsAmong(int in, int[] under) {
            for (int i = 0; i < SORROWS; i++) {
                reach[i] = has(in, i) ? under[i] & in : 0;
            }
            for (int via = 0; via < SORROWS; via++) {
                for (int i = 0; i < SORROWS; i++) {
                    if (has(reach[i], via)) {
                        reach[i] |= reach[via];
                    }
                }
            }
            int rings = 0;
            for (int i = 0; i < SORROWS; i++) {
                rings |= reach[i] & 1 << i;
            }
            return rings;
        }

        // Upwards, so that of several sets the least is met first.
        int fewestForNoRings(State state) {
            int fewest = state.in;
            for (int set = 0; set < SETS; set++) {
                boolean fits = (set & ~state.in) == 0 && Integer.bitCount(set) < Integer.bitCount(fewest);
                if (fits && ringsAmong(state.in & ~set, state.under) == 0) {
                    fewest = set;
                }
            }
            return fewest;
        }

        /** For each set that is in: how much more the one whose turn it is gets. */
        void findGame(Told told, State state) {
            // The last set looked at is that of all that are in, so its answer stays.
            for (int set = 0; set < SETS; set++) {
                if ((set & ~state.in) == 0) {
                    gameFirst = NONE;
                    gameMore = 0;
                    for (int i = 0; i < SORROWS; i++) {
                        if (has(set, i) && (state.under[i] & set) == 0) {
                            keepMove(told.deep[i] - value[set & ~(1 << i)], i);
                        }
                    }
                    value[set] = gameMore;
                }
            }
        }

        private void keepMove(int more, int sorrow) {
            if (gameFirst == NONE || more > gameMore) {
                gameMore = more;
                gameFirst = sorrow;
            }
        }
    }

    /** Who carries what. */
    private static final class Bearing {
        int carried;
        final int[] bearer;
        private final int[] strength;
        private final int[] weightSum;
        private final boolean[] borne;

        Bearing() {
            bearer = new int[SORROWS];
            strength = new int[CARRIERS];
            weightSum = new int[SETS];
            borne = new boolean[SETS];
        }

        void part(Told told, State state) {
            Sets.addUp(state.weight, weightSum);
            System.arraycopy(told.strong, 0, strength, 0, CARRIERS);
            int rest = state.in;
            int wanted = mostOf(rest);
            carried = wanted;
            for (int i = 0; i < SORROWS; i++) {
                bearer[i] = NONE;
                if (state.isIn(i)) {
                    rest &= ~(1 << i);
                    bearer[i] = firstBearer(state.weight[i], rest, wanted);
                    if (bearer[i] != NONE) {
                        wanted -= state.weight[i];
                    }
                }
            }
        }

        /** The first who can bear it so that the rest still comes to what is wanted. */
        private int firstBearer(int weight, int rest, int wanted) {
            if (mostOf(rest) == wanted) {
                return NONE;
            }
            for (int c = 0; c < CARRIERS; c++) {
                if (strength[c] >= weight) {
                    strength[c] -= weight;
                    if (mostOf(rest) == wanted - weight) {
                        return c;
                    }
                    strength[c] += weight;
                }
            }
            return NONE;
        }

        /** The most weight of a set that can be borne with the strength there is. */
        private int mostOf(int all) {
            for (int set = 0; set < SETS; set++) {
                borne[set] = set == 0;
            }
            for (int c = 0; c < CARRIERS; c++) {
                // Downwards, so that smaller sets are yet as without this carrier.
                for (int set = SETS - 1; set > 0; set--) {
                    if ((set & ~all) == 0 && !borne[set]) {
                        borne[set] = canAddTo(set, strength[c]);
                    }
                }
            }
            int most = 0;
            for (int set = 0; set < SETS; set++) {
                if (borne[set]) {
                    most = Math.max(most, weightSum[set]);
                }
            }
            return most;
        }

        private boolean canAddTo(int set, int strong) {
            for (int part = set; part > 0; part = (part - 1) & set) {
                if (weightSum[part] <= strong && borne[set & ~part]) {
                    return true;
                }
            }
            return false;
        }

        /** The fewest carriers for a load, as bits, or NONE; upwards, so that the least comes first. */
        int fewestFor(int load, Told told) {
            int fewest = NONE;
            for (int set = 0; set < 1 << told.carriers; set++) {
                int strong = 0;
                for (int c = 0; c < CARRIERS; c++) {
                    if ((set >> c & 1) != 0) {
                        strong += told.strong[c];
                    }
                }
                boolean fewer = fewest == NONE || Integer.bitCount(set) < Integer.bitCount(fewest);
                if (strong >= load && fewer) {
                    fewest = set;
                }
            }
            return fewest;
        }
    }
}
