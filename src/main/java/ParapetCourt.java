/** A wall round a town whose stones sit in judgment. What each call promises stands in ../shared/DOC.md. */
public final class ParapetCourt {
    public static final int NONE = -1;

    // STATUS, as the document numbers it.
    private static final int FINE = 0;
    private static final int NO_TRAY = 1;
    private static final int NO_PLACE = 2;
    private static final int MISSING = 3;
    private static final int TOO_FEW = 4;
    private static final int BAD_NUMBER = 5;
    private static final int BELOW_ZERO = 6;
    private static final int TOO_MANY = 7;
    private static final int NOT_THERE = 8;
    private static final int CANNOT_BE = 9;
    private static final int FAULTY = 10;
    private static final int UNLIKE = 11;

    // FAULTS of a TEXT, as the document numbers them.
    private static final int NO_TOKEN = 1;
    private static final int CANNOT_STAND = 2;
    private static final int WRONG_NAME = 3;
    private static final int WRONG_NUMBER = 4;
    private static final int ODDS_AGAIN = 5;
    private static final int ONE_TOO_MANY = 6;
    private static final int TOO_DEEP = 7;

    // The words that are no NAMES; each constant below is its word's number along this row.
    private static final String WORDS = "odds stone lenient moss strong gap crow on for against year try kind harsh clear fly any when turns stands loop end stop";
    private static final int ODDS = 0;
    private static final int STONE = 1;
    private static final int LENIENT = 2;
    private static final int MOSS = 3;
    private static final int STRONG = 4;
    private static final int GAP = 5;
    private static final int CROW = 6;
    private static final int ON = 7;
    private static final int FOR = 8;
    private static final int AGAINST = 9;
    private static final int YEAR = 10;
    private static final int TRY = 11;
    private static final int KIND = 12;
    private static final int HARSH = 13;
    private static final int CLEAR = 14;
    private static final int FLY = 15;
    private static final int ANY = 16;
    private static final int WHEN = 17;
    private static final int TURNS = 18;
    private static final int STANDS = 19;
    private static final int LOOP = 20;
    private static final int END = 21;
    private static final int STOP = 22;
    private static final int WORD_COUNT = 23;

    // The document's limits.
    private static final int TRAY_COUNT = 4;
    private static final int TRAY_LENGTH = 60;
    private static final int TAPE_BYTES = 900;
    private static final int FEED_BYTES = 20;
    private static final int TERMS_BYTES = 300;
    private static final int PLACES = 10;
    private static final int CROWS = 4;
    private static final int NAME_LETTERS = 8;
    private static final int NUMBER_DIGITS = 4;
    private static final int MOST_LENIENT = 30;
    private static final int MOST_MOSS = 9;
    private static final int MOST_STRENGTH = 9;
    private static final int USUAL_STRENGTH = 3;
    private static final int MOST_ODDS = 16;
    private static final int USUAL_ODDS = 8;
    private static final int COUNSEL = 3;
    private static final int MOST_GUILT = 99;
    private static final int LAST_YEAR = 9999;
    private static final int YEARS_AT_ONCE = 99;
    private static final int YEARS_AHEAD = 9;
    private static final int TOLD_FITS = 20;
    private static final int MOST_FIT = 60;
    private static final int TOLD_VERDICTS = 6;
    private static final int GAME_TURNS = 4;
    private static final int STEPS = 30;
    private static final int DEPTH = 3;
    private static final int MOST_ROUNDS = 99;
    private static final int YEARS_A_STEP = 20;
    private static final int STEPS_LIVED = 300;
    private static final int LAST_SEED = 9999;
    private static final int MOST_SEEDS = 20;
    private static final int GUILT_DRAWN = 40;
    private static final int MARKS = 3;

    // A STEP with a block has one END, so the code is at most twice as long as the STEPS are many.
    private static final int CODE = 2 * STEPS;
    // Each STEP lived comes to at most 99 ENDS; this bound stands far above all of them.
    private static final int TICKS = 100000;

    private final Tray[] trays = new Tray[TRAY_COUNT];
    private final byte[] tape = new byte[TAPE_BYTES];
    private final Text text = new Text(tape);
    private final Wall wall = new Wall();
    private final Terms terms = new Terms();
    private final WallReader wallReader = new WallReader(text);
    private final TermsReader termsReader = new TermsReader(text, wall);
    private final Wall[] markedWalls = new Wall[MARKS];
    private final Terms[] markedTerms = new Terms[MARKS];
    private final Life life = new Life(terms, wall);
    // mean() lives on these, so that all stays as it is.
    private final Wall otherWall = new Wall();
    private final Life otherLife = new Life(terms, otherWall);
    private final Guess guess = new Guess();
    private final Cutter cutter = new Cutter();
    private final Debate debate = new Debate(wall);
    private final Fraction fraction = new Fraction();
    private int fed;
    private int marks;
    private boolean hasLived;
    private int status;

    public ParapetCourt() {
        for (int i = 0; i < TRAY_COUNT; i++) {
            trays[i] = new Tray();
        }
        for (int i = 0; i < MARKS; i++) {
            markedWalls[i] = new Wall();
            markedTerms[i] = new Terms();
        }
    }

    public int status() {
        return status;
    }

    public long top() {
        return fraction.top;
    }

    public long bottom() {
        return fraction.bottom;
    }

    // ---- TRAYS

    public boolean tray(int tray, int sort, int many) {
        int why = FINE;
        if (!isTray(tray) || !Tray.isSort(sort)) {
            why = NO_TRAY;
        } else if (many > TRAY_LENGTH) {
            why = BAD_NUMBER;
        } else if (many < 0) {
            why = BELOW_ZERO;
        }
        if (refused(why)) {
            return false;
        }
        trays[tray].make(sort, many);
        return true;
    }

    public boolean write(int tray, int place, long v) {
        if (refused(trayPlaceWhy(tray, place))) {
            return false;
        }
        trays[tray].put(place, v);
        return true;
    }

    public long read(int tray, int place) {
        if (refused(trayPlaceWhy(tray, place))) {
            return NONE;
        }
        return trays[tray].numbers[place];
    }

    public boolean pour(int tray, int i, int to, int j, int many) {
        if (refused(pourWhy(tray, i, to, j, many))) {
            return false;
        }
        System.arraycopy(trays[tray].numbers, i, trays[to].numbers, j, many);
        return true;
    }

    private int pourWhy(int tray, int i, int to, int j, int many) {
        if (!isTray(tray) || !isTray(to)) {
            return NO_TRAY;
        }
        Tray from = trays[tray];
        Tray into = trays[to];
        if (from.isMissing() || into.isMissing()) {
            return MISSING;
        }
        if (from.sort != into.sort) {
            return UNLIKE;
        }
        if (many < 0) {
            return BELOW_ZERO;
        }
        return from.hasRow(i, many) && into.hasRow(j, many) ? FINE : TOO_FEW;
    }

    private static boolean isTray(int tray) {
        return tray >= 0 && tray < TRAY_COUNT;
    }

    private int trayPlaceWhy(int tray, int place) {
        if (!isTray(tray)) {
            return NO_TRAY;
        }
        if (trays[tray].isMissing()) {
            return MISSING;
        }
        return trays[tray].hasRow(place, 1) ? FINE : TOO_FEW;
    }

    private boolean refused(int why) {
        status = why;
        return why != FINE;
    }

    // ---- texts

    public int feed(int a, int b, int c, int d, int e) {
        if (fed + FEED_BYTES > TAPE_BYTES) {
            return NONE;
        }
        feedInt(a);
        feedInt(b);
        feedInt(c);
        feedInt(d);
        feedInt(e);
        return fed;
    }

    private void feedInt(int four) {
        for (int shift = 24; shift >= 0 && fed < TAPE_BYTES; shift -= 8) {
            tape[fed] = (byte) (four >> shift);
            fed++;
        }
    }

    public int wall(int n) {
        if (refused(n < 0 || n > fed ? BAD_NUMBER : FINE)) {
            return NONE;
        }
        fed = 0;
        text.begin(n);
        if (refused(wallReader.reads() ? FINE : FAULTY)) {
            return NONE;
        }
        wall.copyFrom(wallReader.draft);
        terms.forget();
        return wall.places;
    }

    public int terms(int n) {
        if (refused(n < 0 || n > fed || n > TERMS_BYTES ? BAD_NUMBER : FINE)) {
            return NONE;
        }
        fed = 0;
        text.begin(n);
        if (refused(termsReader.reads() ? FINE : FAULTY)) {
            return NONE;
        }
        terms.copyFrom(termsReader.draft);
        return terms.steps;
    }

    public int fault(int what) {
        if (what == 0) {
            return text.fault;
        }
        return what == 1 ? text.faultAt : NONE;
    }

    public int many(int what) {
        if (refused(what < 0 || what > 9 ? BAD_NUMBER : FINE)) {
            return NONE;
        }
        switch (what) {
            case 0: return wall.places;
            case 1: return wall.stoneCount();
            case 2: return wall.crows;
            case 3: return wall.odds;
            case 4: return wall.year;
            case 5: return wall.trials;
            case 6: return wall.condemned;
            case 7: return wall.wrong;
            case 8: return wall.stones;
            default: return wall.mossOfAll();
        }
    }

    public int stone(int place, int what) {
        if (refused(stoneWhy(place, what >= 0 && what <= 4))) {
            return NONE;
        }
        switch (what) {
            case 0: return wall.lenient[place];
            case 1: return wall.moss[place];
            case 2: return wall.strength[place];
            case 3: return wall.crowsOn(place);
            default: return wall.mercyFor(place, place, 0);
        }
    }

    public int crow(int crow, int what) {
        int why = FINE;
        if (!wall.isCrow(crow)) {
            why = NO_PLACE;
        } else if (what < 0 || what > 1) {
            why = BAD_NUMBER;
        } else if (what == 0 && wall.crowAt[crow] == NONE) {
            why = NOT_THERE;
        }
        if (refused(why)) {
            return NONE;
        }
        if (what == 0) {
            return wall.crowAt[crow];
        }
        return wall.crowFor[crow] ? 1 : 0;
    }

    public int copyMoss(int tray) {
        int why = FINE;
        if (!isTray(tray)) {
            why = NO_TRAY;
        } else if (trays[tray].isMissing()) {
            why = MISSING;
        } else if (!trays[tray].hasRow(0, wall.places)) {
            why = TOO_FEW;
        }
        if (refused(why)) {
            return NONE;
        }
        for (int p = 0; p < wall.places; p++) {
            trays[tray].put(p, wall.moss[p]);
        }
        return wall.places;
    }

    // ---- what is done

    public int judge(int guilt, int place, boolean did) {
        if (refused(guiltWhy(guilt, place))) {
            return NONE;
        }
        return wall.holdTrial(guilt, place, did) ? 1 : 0;
    }

    public int year(int years) {
        int why = FINE;
        if (years < 1 || years > YEARS_AT_ONCE) {
            why = BAD_NUMBER;
        } else if (!wall.passYears(years)) {
            why = TOO_MANY;
        }
        return refused(why) ? NONE : wall.mossOfAll();
    }

    public int carve(int place, int lenient) {
        if (refused(stoneWhy(place, isLenient(lenient)))) {
            return NONE;
        }
        int before = wall.lenient[place];
        wall.lenient[place] = lenient;
        return before;
    }

    public int clear(int place) {
        int why = stoneWhy(place, true);
        if (why == FINE && wall.moss[place] == 0) {
            why = NOT_THERE;
        }
        if (refused(why)) {
            return NONE;
        }
        int before = wall.moss[place];
        wall.moss[place] = 0;
        return before;
    }

    public boolean open(int place) {
        if (refused(stoneWhy(place, true))) {
            return false;
        }
        wall.makeGap(place);
        return true;
    }

    public boolean mend(int place, int lenient, int strong) {
        int why = FINE;
        if (!wall.isPlace(place)) {
            why = NO_PLACE;
        } else if (!isLenient(lenient) || strong < 1 || strong > MOST_STRENGTH) {
            why = BAD_NUMBER;
        } else if (wall.isStone(place)) {
            why = CANNOT_BE;
        }
        if (refused(why)) {
            return false;
        }
        wall.setStone(place, lenient, 0, strong);
        return true;
    }

    public int fly(int crow, int place) {
        int why = FINE;
        if (!wall.isCrow(crow) || !wall.isPlace(place)) {
            why = NO_PLACE;
        } else if (!wall.isStone(place)) {
            why = NOT_THERE;
        } else if (wall.crowAt[crow] == place) {
            why = CANNOT_BE;
        }
        if (refused(why)) {
            return NONE;
        }
        int before = wall.crowAt[crow];
        wall.moveCrow(crow, place);
        return before == NONE ? 0 : 1;
    }

    public int hatch(int place, boolean isFor) {
        int why = FINE;
        if (!wall.isPlace(place)) {
            why = NO_PLACE;
        } else if (wall.crows >= CROWS) {
            why = TOO_MANY;
        } else if (!wall.isStone(place)) {
            why = NOT_THERE;
        }
        if (refused(why)) {
            return NONE;
        }
        wall.addCrow(Text.NO_NAME, place, isFor);
        return wall.crows - 1;
    }

    public boolean rule(int odds) {
        if (refused(odds < 0 || odds > MOST_ODDS ? BAD_NUMBER : FINE)) {
            return false;
        }
        wall.odds = odds;
        return true;
    }

    private static boolean isLenient(int lenient) {
        return lenient >= 0 && lenient <= MOST_LENIENT;
    }

    private static boolean isGuilt(long guilt) {
        return guilt >= 0 && guilt <= MOST_GUILT;
    }

    private int guiltWhy(int guilt, int place) {
        if (!wall.isPlace(place)) {
            return NO_PLACE;
        }
        return isGuilt(guilt) ? FINE : BAD_NUMBER;
    }

    private int stoneWhy(int place, boolean numbersCanBe) {
        if (!wall.isPlace(place)) {
            return NO_PLACE;
        }
        if (!numbersCanBe) {
            return BAD_NUMBER;
        }
        return wall.isStone(place) ? FINE : NOT_THERE;
    }

    private int twoPlacesWhy(int place, int other) {
        return wall.isPlace(place) && wall.isPlace(other) ? FINE : NO_PLACE;
    }

    // ---- who turns

    public int far(int place, int other) {
        if (refused(twoPlacesWhy(place, other))) {
            return NONE;
        }
        int between = Math.abs(place - other);
        return Math.min(between, wall.places - between);
    }

    public int mercy(int stone, int place) {
        int why = twoPlacesWhy(stone, place);
        if (why == FINE && !wall.isStone(stone)) {
            why = NOT_THERE;
        }
        if (refused(why)) {
            return NONE;
        }
        return wall.mercyFor(stone, place, 0);
    }

    public int turned(int guilt, int place) {
        if (refused(guiltWhy(guilt, place))) {
            return NONE;
        }
        return wall.turningFrom(guilt, place, 0);
    }

    public int verdict(int guilt, int place) {
        if (refused(guiltWhy(guilt, place))) {
            return NONE;
        }
        return wall.condemns(guilt, place, 0) ? 1 : 0;
    }

    public int stand(int guilt) {
        if (refused(guiltOfStonesWhy(guilt, true))) {
            return NONE;
        }
        return wall.bestPlace(guilt, 1);
    }

    public int fall(int guilt) {
        if (refused(guiltOfStonesWhy(guilt, true))) {
            return NONE;
        }
        return wall.bestPlace(guilt, -1);
    }

    public int least(int place) {
        int found = NONE;
        int why = NO_PLACE;
        if (wall.isPlace(place)) {
            found = wall.leastGuilt(place);
            why = found == NONE ? NOT_THERE : FINE;
        }
        return refused(why) ? NONE : found;
    }

    public int freeIn(int guilt, int place) {
        int found = NONE;
        int why = guiltWhy(guilt, place);
        if (why == FINE) {
            found = wall.yearsToFree(guilt, place);
            why = found == NONE ? NOT_THERE : FINE;
        }
        return refused(why) ? NONE : found;
    }

    private int guiltOfStonesWhy(int guilt, boolean numbersCanBe) {
        if (!isGuilt(guilt) || !numbersCanBe) {
            return BAD_NUMBER;
        }
        return wall.stones == 0 ? NOT_THERE : FINE;
    }

    // ---- what he did

    public int fits(int tray, int n) {
        if (refused(fitsWhy(tray, n, true))) {
            return NONE;
        }
        return guess.count();
    }

    public int fitsBy(int tray, int n, int what) {
        int why = fitsWhy(tray, n, what == 0 || what == 1);
        if (why == FINE && guess.count() == 0) {
            why = NOT_THERE;
        }
        if (refused(why)) {
            return NONE;
        }
        return what == 0 ? guess.least : guess.greatest;
    }

    public int ask(int tray, int n, int what) {
        int why = fitsWhy(tray, n, what == 0 || what == 1);
        if (why == FINE && (guess.count() < 2 || wall.stones == 0)) {
            why = NOT_THERE;
        }
        if (refused(why)) {
            return NONE;
        }
        guess.findQuestion(wall);
        return what == 0 ? guess.askedAt : guess.askedStone;
    }

    /** With FINE the guess has been told all the threes. */
    private int fitsWhy(int tray, int n, boolean numbersCanBe) {
        int why = threesWhy(tray, n, TOLD_FITS);
        if (why != FINE) {
            return why;
        }
        if (!numbersCanBe) {
            return BAD_NUMBER;
        }
        long[] row = trays[tray].numbers;
        guess.begin();
        for (int i = 0; i < n; i++) {
            long place = row[3 * i];
            long stone = row[3 * i + 1];
            long told = row[3 * i + 2];
            if (!wall.isPlace(place) || !wall.isStone(stone) || told < 0 || told > 1) {
                return BAD_NUMBER;
            }
            guess.tell(wall.mercyFor((int) stone, (int) place, 0), told == 1);
        }
        return FINE;
    }

    private int threesWhy(int tray, int n, int most) {
        if (!isTray(tray)) {
            return NO_TRAY;
        }
        if (trays[tray].isMissing()) {
            return MISSING;
        }
        if (3L * n > trays[tray].length) {
            return TOO_FEW;
        }
        return n < 0 || n > most ? BAD_NUMBER : FINE;
    }

    // ---- what to cut, to open

    public int cuts(int tray, int n) {
        if (refused(cutsWhy(tray, n))) {
            return NONE;
        }
        return cutter.fewest;
    }

    public int cutOf(int tray, int n, int place) {
        if (refused(isTray(tray) && !wall.isPlace(place) ? NO_PLACE : cutsWhy(tray, n))) {
            return NONE;
        }
        return cutter.cutOn(place);
    }

    /** With FINE the cutter has found its way. */
    private int cutsWhy(int tray, int n) {
        int why = threesWhy(tray, n, TOLD_VERDICTS);
        if (why != FINE) {
            return why;
        }
        long[] row = trays[tray].numbers;
        cutter.begin(wall.stones);
        for (int i = 0; i < n; i++) {
            long guilt = row[3 * i];
            long place = row[3 * i + 1];
            long told = row[3 * i + 2];
            if (!isGuilt(guilt) || !wall.isPlace(place) || told < 0 || told > 1) {
                return BAD_NUMBER;
            }
            int turning = wall.turningFrom((int) guilt, (int) place, 0);
            cutter.tell(wall.isStone(place), turning, told == 1);
        }
        return cutter.findWay() ? FINE : NOT_THERE;
    }

    public int windows(int guilt, int place) {
        if (refused(windowsWhy(guilt, place))) {
            return NONE;
        }
        return Integer.bitCount(wall.windowsFor(guilt, place));
    }

    public int windowSet(int guilt, int place) {
        if (refused(windowsWhy(guilt, place))) {
            return NONE;
        }
        return wall.windowsFor(guilt, place);
    }

    private int windowsWhy(int guilt, int place) {
        int why = guiltWhy(guilt, place);
        if (why != FINE) {
            return why;
        }
        if (!wall.isStone(place)) {
            return CANNOT_BE;
        }
        return wall.windowsFor(guilt, place) == NONE ? NOT_THERE : FINE;
    }

    // ---- walks

    public int walk(int place, int other) {
        if (refused(walkWhy(place, other, 0))) {
            return NONE;
        }
        return Math.abs(wall.walkTo(place, other));
    }

    public int walkAt(int place, int other, int k) {
        if (refused(walkWhy(place, other, k))) {
            return NONE;
        }
        return wall.around(place, wall.walkTo(place, other) < 0 ? -k : k);
    }

    private int walkWhy(int place, int other, int k) {
        if (twoPlacesWhy(place, other) != FINE) {
            return NO_PLACE;
        }
        int way = wall.walkTo(place, other);
        return way == Wall.NO_WAY || k < 0 || k > Math.abs(way) ? NOT_THERE : FINE;
    }

    public int longest() {
        return refused(FINE) ? NONE : wall.longestRow();
    }

    // ---- games, odds

    public int game(int guilt, int place, int turns) {
        if (refused(gameWhy(guilt, place, turns, 0))) {
            return NONE;
        }
        debate.begin(guilt, place);
        return debate.outcome(turns);
    }

    public int moveOf(int guilt, int place, int turns) {
        int found = NONE;
        int why = gameWhy(guilt, place, turns, 1);
        if (why == FINE) {
            debate.begin(guilt, place);
            found = debate.firstMove(turns);
            why = found == NONE ? NOT_THERE : FINE;
        }
        return refused(why) ? NONE : found;
    }

    private int gameWhy(int guilt, int place, int turns, int fewest) {
        int why = guiltWhy(guilt, place);
        return why == FINE && (turns < fewest || turns > GAME_TURNS) ? BAD_NUMBER : why;
    }

    public boolean lot(int guilt, int what) {
        if (refused(guiltOfStonesWhy(guilt, what == 0 || what == 1))) {
            return false;
        }
        int sum = 0;
        for (int p = 0; p < wall.places; p++) {
            if (wall.isStone(p)) {
                sum += what == 0 ? (wall.condemns(guilt, p, 0) ? 1 : 0) : wall.turnCount(guilt, p);
            }
        }
        fraction.tell(sum, wall.stoneCount());
        return true;
    }

    public boolean couples(int k) {
        if (refused(k < 0 || k > PLACES ? BAD_NUMBER : FINE)) {
            return false;
        }
        fraction.tellAtLeast(k, wall.stoneCount(), wall.odds);
        return true;
    }

    // ---- TERMS

    public int live(int seed) {
        if (refused(seedsWhy(seed, 1))) {
            return NONE;
        }
        life.run(seed);
        hasLived = true;
        return life.done;
    }

    public int lived(int what) {
        int why = FINE;
        if (what < 0 || what > 4) {
            why = BAD_NUMBER;
        } else if (!hasLived) {
            why = NOT_THERE;
        }
        if (refused(why)) {
            return NONE;
        }
        switch (what) {
            case 0: return life.missed;
            case 1: return life.years;
            case 2: return life.condemned;
            case 3: return life.wrong;
            default: return life.leftOver ? 1 : 0;
        }
    }

    public boolean mean(int seed, int many) {
        if (refused(seedsWhy(seed, many))) {
            return false;
        }
        int sum = 0;
        for (int i = 0; i < many; i++) {
            otherWall.copyFrom(wall);
            otherLife.run(seed + i);
            sum += otherWall.stoneCount();
        }
        fraction.tell(sum, many);
        return true;
    }

    private int seedsWhy(int seed, int many) {
        if (seed < 0 || many < 1 || many > MOST_SEEDS || seed > LAST_SEED - many + 1) {
            return BAD_NUMBER;
        }
        return terms.told ? FINE : NOT_THERE;
    }

    // ---- MARKS

    public int mark() {
        if (refused(marks >= MARKS ? TOO_MANY : FINE)) {
            return NONE;
        }
        markedWalls[marks].copyFrom(wall);
        markedTerms[marks].copyFrom(terms);
        marks++;
        return marks;
    }

    public int back() {
        if (refused(marks <= 0 ? NOT_THERE : FINE)) {
            return NONE;
        }
        marks--;
        wall.copyFrom(markedWalls[marks]);
        terms.copyFrom(markedTerms[marks]);
        return marks;
    }

    /** A row of numbers with sign, each kept in as many bits as its sort has. */
    private static final class Tray {
        private static final int BYTES = 0;
        private static final int SHORTS = 1;
        private static final int INTS = 2;
        private static final int LONGS = 3;

        private final long[] numbers = new long[TRAY_LENGTH];
        private int sort = NONE;
        private int length;

        private static boolean isSort(int sort) {
            return sort >= BYTES && sort <= LONGS;
        }

        private boolean isMissing() {
            return sort == NONE;
        }

        private void make(int newSort, int newLength) {
            sort = newSort;
            length = newLength;
            for (int i = 0; i < TRAY_LENGTH; i++) {
                numbers[i] = 0;
            }
        }

        private boolean hasRow(int place, int many) {
            return place >= 0 && many >= 0 && (long) place + many <= length;
        }

        private void put(int place, long v) {
            switch (sort) {
                case BYTES: numbers[place] = (byte) v; break;
                case SHORTS: numbers[place] = (short) v; break;
                case INTS: numbers[place] = (int) v; break;
                default: numbers[place] = v; break;
            }
        }
    }

    /** A FRACTION without a common divisor. */
    private static final class Fraction {
        private static final int MOST_DIVISIONS = 200;

        private long top;
        private long bottom = 1;

        private void tell(long newTop, long newBottom) {
            long divisor = commonDivisor(newTop, newBottom);
            if (divisor > 0) {
                top = newTop / divisor;
                bottom = newBottom / divisor;
            }
        }

        private static long commonDivisor(long a, long b) {
            long greater = a;
            long rest = b;
            for (int i = 0; i < MOST_DIVISIONS && rest != 0; i++) {
                long next = greater % rest;
                greater = rest;
                rest = next;
            }
            return greater;
        }

        /** The odds that k or more of so many stones are leant upon. */
        private void tellAtLeast(int k, int stones, int odds) {
            long sum = 0;
            long ways = 1;
            for (int leant = 0; leant <= stones; leant++) {
                if (leant >= k) {
                    sum += ways * power(odds, leant) * power(MOST_ODDS - odds, stones - leant);
                }
                ways = ways * (stones - leant) / (leant + 1);
            }
            tell(sum, power(MOST_ODDS, stones));
        }

        private static long power(long base, int times) {
            long product = 1;
            for (int i = 0; i < times; i++) {
                product *= base;
            }
            return product;
        }
    }

    /** The TOKENS of a TEXT one after another, and its first FAULT. */
    private static final class Text {
        private static final long NO_NAME = 0;
        private static final long TOO_LONG = -1;
        private static final int LETTERS = 27;
        private static final int AT_END = 0;
        private static final int BAD = 1;
        private static final int WORD = 2;
        private static final int NUMBER = 3;
        private static final int SIGN = 4;

        private final byte[] bytes;
        private final long[] keys = new long[WORD_COUNT];
        private int length;
        private int next;
        private int kind;
        private int at;
        private long word;
        private int key;
        private int value;
        private int number;
        private int fault = NONE;
        private int faultAt = NONE;

        private Text(byte[] bytes) {
            this.bytes = bytes;
            int k = 0;
            for (int i = 0; i < WORDS.length() && k < WORD_COUNT; i++) {
                char sign = WORDS.charAt(i);
                if (sign == ' ') {
                    k++;
                } else {
                    keys[k] = keys[k] * LETTERS + (sign - 'a' + 1);
                }
            }
        }

        private void begin(int newLength) {
            length = Math.min(newLength, bytes.length);
            next = 0;
            fault = 0;
            faultAt = NONE;
            step();
        }

        private void step() {
            while (next < length && (bytes[next] == 10 || bytes[next] == 32)) {
                next++;
            }
            at = next;
            if (at >= length) {
                kind = AT_END;
            } else if (isLetter(bytes[at])) {
                stepWord();
            } else if (isDigit(bytes[at])) {
                stepNumber();
            } else {
                stepSign();
            }
        }

        private static boolean isLetter(int b) {
            return b >= 'a' && b <= 'z';
        }

        private static boolean isDigit(int b) {
            return b >= '0' && b <= '9';
        }

        private void stepWord() {
            word = 0;
            while (next < length && isLetter(bytes[next])) {
                if (next - at < NAME_LETTERS) {
                    word = word * LETTERS + (bytes[next] - 'a' + 1);
                } else {
                    word = TOO_LONG;
                }
                next++;
            }
            kind = WORD;
            key = keyOf(word);
        }

        private int keyOf(long wanted) {
            for (int k = 0; k < WORD_COUNT; k++) {
                if (keys[k] == wanted) {
                    return k;
                }
            }
            return NONE;
        }

        private void stepNumber() {
            value = 0;
            while (next < length && isDigit(bytes[next])) {
                if (next - at < NUMBER_DIGITS) {
                    value = value * 10 + (bytes[next] - '0');
                }
                next++;
            }
            kind = next - at > NUMBER_DIGITS ? BAD : NUMBER;
        }

        private void stepSign() {
            value = bytes[at];
            next++;
            kind = value == ';' || value == '<' || value == '>' || value == '=' ? SIGN : BAD;
        }

        private boolean isAtEnd() {
            return kind == AT_END;
        }

        private boolean isWord(int wanted) {
            return kind == WORD && key == wanted;
        }

        private boolean isSign(int wanted) {
            return kind == SIGN && value == wanted;
        }

        private boolean isName() {
            return kind == WORD && key == NONE && word != TOO_LONG;
        }

        private boolean isStepWord() {
            return kind == WORD && key >= YEAR && key != TURNS && key != STANDS && key != END;
        }

        /** Of one TOKEN the least kind is told, so one that is none goes ahead of what else is wrong. */
        private boolean refuse(int why) {
            fault = kind == BAD ? NO_TOKEN : why;
            faultAt = at;
            return false;
        }

        private boolean takeWord(int wanted) {
            if (!isWord(wanted)) {
                return refuse(CANNOT_STAND);
            }
            step();
            return true;
        }

        private boolean takeSign(int wanted) {
            if (!isSign(wanted)) {
                return refuse(CANNOT_STAND);
            }
            step();
            return true;
        }

        /** One of < > = by its sign's number. */
        private boolean takeComparison() {
            if (kind != SIGN || value == ';') {
                return refuse(CANNOT_STAND);
            }
            number = value;
            step();
            return true;
        }

        private boolean takeNumber(int from, int to) {
            if (kind != NUMBER) {
                return refuse(CANNOT_STAND);
            }
            if (value < from || value > to) {
                return refuse(WRONG_NUMBER);
            }
            number = value;
            step();
            return true;
        }
    }

    /** The WALL with all that became of it. */
    private static final class Wall {
        private static final int NO_WAY = PLACES;

        private int places;
        /** The set of PLACES that are STONES. */
        private int stones;
        private final int[] lenient = new int[PLACES];
        private final int[] moss = new int[PLACES];
        private final int[] strength = new int[PLACES];
        /** What the CROWS on a STONE add to its MERCY. */
        private final int[] counsel = new int[PLACES];
        private final long[] names = new long[PLACES];
        private int crows;
        private final int[] crowAt = new int[CROWS];
        private final boolean[] crowFor = new boolean[CROWS];
        private final long[] crowNames = new long[CROWS];
        private int odds = USUAL_ODDS;
        private int year;
        private int trials;
        private int condemned;
        private int wrong;

        private void empty() {
            places = 0;
            stones = 0;
            crows = 0;
            odds = USUAL_ODDS;
            year = 0;
            trials = 0;
            condemned = 0;
            wrong = 0;
        }

        private void copyFrom(Wall other) {
            places = other.places;
            stones = other.stones;
            for (int p = 0; p < PLACES; p++) {
                lenient[p] = other.lenient[p];
                moss[p] = other.moss[p];
                strength[p] = other.strength[p];
                counsel[p] = other.counsel[p];
                names[p] = other.names[p];
            }
            crows = other.crows;
            for (int c = 0; c < CROWS; c++) {
                crowAt[c] = other.crowAt[c];
                crowFor[c] = other.crowFor[c];
                crowNames[c] = other.crowNames[c];
            }
            odds = other.odds;
            year = other.year;
            trials = other.trials;
            condemned = other.condemned;
            wrong = other.wrong;
        }

        private boolean isPlace(long place) {
            return place >= 0 && place < places;
        }

        private boolean isStone(long place) {
            return place >= 0 && place < places && (stones >> place & 1) == 1;
        }

        private boolean isCrow(int crow) {
            return crow >= 0 && crow < crows;
        }

        private int stoneCount() {
            return Integer.bitCount(stones);
        }

        private boolean isFull() {
            return places >= PLACES;
        }

        private void addGap() {
            addPlace(Text.NO_NAME);
        }

        private void addPlace(long name) {
            if (isFull()) {
                return;
            }
            names[places] = name;
            places++;
            makeGap(places - 1);
        }

        private void setStone(int place, int newLenient, int newMoss, int newStrength) {
            stones |= 1 << place;
            lenient[place] = newLenient;
            moss[place] = newMoss;
            strength[place] = newStrength;
        }

        private void makeGap(int place) {
            stones &= ~(1 << place);
            moss[place] = 0;
            counsel[place] = 0;
            for (int c = 0; c < crows; c++) {
                if (crowAt[c] == place) {
                    crowAt[c] = NONE;
                }
            }
        }

        private void addCrow(long name, int place, boolean isFor) {
            if (crows >= CROWS) {
                return;
            }
            crowNames[crows] = name;
            crowFor[crows] = isFor;
            crowAt[crows] = NONE;
            crows++;
            moveCrow(crows - 1, place);
        }

        private void moveCrow(int crow, int place) {
            int voice = crowFor[crow] ? COUNSEL : -COUNSEL;
            if (crowAt[crow] != NONE) {
                counsel[crowAt[crow]] -= voice;
            }
            counsel[place] += voice;
            crowAt[crow] = place;
        }

        private int crowsOn(int place) {
            int set = 0;
            for (int c = 0; c < crows; c++) {
                if (crowAt[c] == place) {
                    set |= 1 << c;
                }
            }
            return set;
        }

        private int stoneNamed(long name) {
            for (int p = 0; p < places; p++) {
                if (names[p] == name) {
                    return p;
                }
            }
            return NONE;
        }

        private int crowNamed(long name) {
            for (int c = 0; c < crows; c++) {
                if (crowNames[c] == name) {
                    return c;
                }
            }
            return NONE;
        }

        private int mossOfAll() {
            int sum = 0;
            for (int p = 0; p < places; p++) {
                sum += moss[p];
            }
            return sum;
        }

        /** False, and nothing is done, if these years would go beyond the last. */
        private boolean passYears(int years) {
            if (year + years > LAST_YEAR) {
                return false;
            }
            year += years;
            for (int p = 0; p < places; p++) {
                if (isStone(p)) {
                    moss[p] = Math.min(MOST_MOSS, moss[p] + years);
                }
            }
            return true;
        }

        /** MERCY when so many years of moss have come. */
        private int mercyFor(int stone, int place, int years) {
            int between = Math.abs(stone - place);
            int distance = Math.min(between, places - between);
            return lenient[stone] + Math.min(MOST_MOSS, moss[stone] + years) + distance + counsel[stone];
        }

        private int turningFrom(int guilt, int place, int years) {
            int set = 0;
            for (int p = 0; p < places; p++) {
                if (isStone(p) && guilt > mercyFor(p, place, years)) {
                    set |= 1 << p;
                }
            }
            return set;
        }

        private int turnCount(int guilt, int place) {
            return Integer.bitCount(turningFrom(guilt, place, 0));
        }

        private boolean condemns(int guilt, int place, int years) {
            return isStone(place) && isMost(turningFrom(guilt, place, years));
        }

        private boolean isMost(int turning) {
            return 2 * Integer.bitCount(turning) > Integer.bitCount(stones);
        }

        /** A TRIAL: whether he is CONDEMNED. */
        private boolean holdTrial(int guilt, int place, boolean did) {
            int turning = turningFrom(guilt, place, 0);
            boolean isCondemned = isStone(place) && isMost(turning);
            trials++;
            if (isCondemned) {
                condemned++;
            }
            if (isCondemned != did) {
                wrong++;
                weaken(isCondemned ? turning : stones & ~turning);
            }
            return isCondemned;
        }

        private void weaken(int set) {
            for (int p = 0; p < places; p++) {
                if ((set >> p & 1) == 1) {
                    strength[p]--;
                    if (strength[p] <= 0) {
                        makeGap(p);
                    }
                }
            }
        }

        /** The first STONE from whose place the fewest turn, or, by a sign of -1, the most. */
        private int bestPlace(int guilt, int sign) {
            int best = NONE;
            int bestCount = 0;
            for (int p = 0; p < places; p++) {
                if (isStone(p)) {
                    int count = sign * turnCount(guilt, p);
                    if (best == NONE || count < bestCount) {
                        best = p;
                        bestCount = count;
                    }
                }
            }
            return best;
        }

        private int leastGuilt(int place) {
            for (int guilt = 0; guilt <= MOST_GUILT; guilt++) {
                if (condemns(guilt, place, 0)) {
                    return guilt;
                }
            }
            return NONE;
        }

        private int yearsToFree(int guilt, int place) {
            for (int years = 0; years <= YEARS_AHEAD; years++) {
                if (!condemns(guilt, place, years)) {
                    return years;
                }
            }
            return NONE;
        }

        /**
         * The least set of fewest windows, NONE if there is none. Each stone that is carried off moves twice the
         * turning, less all, by 1 at most, and just those of one side move it the right way: so the fewest are of
         * that side alone, and the lowest of them are the least set.
         */
        private int windowsFor(int guilt, int place) {
            int turning = turningFrom(guilt, place, 0);
            int more = 2 * Integer.bitCount(turning) - stoneCount();
            int need = more > 0 ? more : 1 - more;
            int side = (more > 0 ? turning : stones & ~turning) & ~(1 << place);
            int set = 0;
            for (int p = 0; p < places && need > 0; p++) {
                if ((side >> p & 1) == 1) {
                    set |= 1 << p;
                    need--;
                }
            }
            return need > 0 ? NONE : set;
        }

        private int around(int place, int steps) {
            return places == 0 ? NONE : Math.floorMod(place + steps, places);
        }

        /** The steps of the shortest walk, below 0 if it goes to lower numbers; NO_WAY without one. */
        private int walkTo(int place, int other) {
            if (places == 0) {
                return NO_WAY;
            }
            int up = Math.floorMod(other - place, places);
            int down = Math.floorMod(place - other, places);
            boolean canUp = isRowOfStones(place, up);
            boolean canDown = isRowOfStones(other, down);
            if (canUp && (up <= down || !canDown)) {
                return up;
            }
            return canDown ? -down : NO_WAY;
        }

        private boolean isRowOfStones(int from, int steps) {
            for (int k = 0; k <= steps; k++) {
                if (!isStone(around(from, k))) {
                    return false;
                }
            }
            return true;
        }

        private int longestRow() {
            int best = 0;
            int row = 0;
            // Twice round, as the longest row may go over the ring's beginning.
            for (int k = 0; k < 2 * places; k++) {
                row = isStone(around(0, k)) ? row + 1 : 0;
                best = Math.max(best, row);
            }
            return Math.min(best, places);
        }
    }

    /** Reads a WALL's TEXT into a draft, so that the old WALL stays if there is a FAULT. */
    private static final class WallReader {
        private final Text text;
        private final Wall draft = new Wall();
        private boolean oddsTold;

        private WallReader(Text text) {
            this.text = text;
        }

        private boolean reads() {
            draft.empty();
            oddsTold = false;
            boolean isGood = true;
            for (int part = 0; part <= TAPE_BYTES && isGood && !text.isAtEnd(); part++) {
                if (text.isWord(ODDS)) {
                    isGood = readOdds();
                } else if (text.isWord(STONE)) {
                    isGood = readStone();
                } else if (text.isWord(GAP)) {
                    isGood = readGap();
                } else {
                    isGood = text.isWord(CROW) ? readCrow() : text.refuse(CANNOT_STAND);
                }
            }
            return isGood;
        }

        private boolean readOdds() {
            if (oddsTold) {
                return text.refuse(ODDS_AGAIN);
            }
            oddsTold = true;
            text.step();
            if (!text.takeNumber(0, MOST_ODDS)) {
                return false;
            }
            draft.odds = text.number;
            return text.takeSign(';');
        }

        private boolean readStone() {
            if (draft.isFull()) {
                return text.refuse(ONE_TOO_MANY);
            }
            text.step();
            long name = text.word;
            if (!takeNewName() || !text.takeWord(LENIENT) || !text.takeNumber(0, MOST_LENIENT)) {
                return false;
            }
            int lenient = text.number;
            int moss = readPerhaps(MOSS, 0, MOST_MOSS, 0);
            int strength = moss == NONE ? NONE : readPerhaps(STRONG, 1, MOST_STRENGTH, USUAL_STRENGTH);
            if (strength == NONE) {
                return false;
            }
            draft.addPlace(name);
            draft.setStone(draft.places - 1, lenient, moss, strength);
            return text.takeSign(';');
        }

        /** The number behind a word that may stand here; what it is without the word; NONE if there is a FAULT. */
        private int readPerhaps(int word, int from, int to, int without) {
            if (!text.isWord(word)) {
                return without;
            }
            text.step();
            return text.takeNumber(from, to) ? text.number : NONE;
        }

        private boolean readGap() {
            if (draft.isFull()) {
                return text.refuse(ONE_TOO_MANY);
            }
            text.step();
            draft.addGap();
            return text.takeSign(';');
        }

        private boolean readCrow() {
            if (draft.crows >= CROWS) {
                return text.refuse(ONE_TOO_MANY);
            }
            text.step();
            long name = text.word;
            if (!takeNewName() || !text.takeWord(ON)) {
                return false;
            }
            if (!text.isName()) {
                return text.refuse(CANNOT_STAND);
            }
            int place = draft.stoneNamed(text.word);
            if (place == NONE) {
                return text.refuse(WRONG_NAME);
            }
            text.step();
            boolean isFor = text.isWord(FOR);
            if (!isFor && !text.isWord(AGAINST)) {
                return text.refuse(CANNOT_STAND);
            }
            text.step();
            draft.addCrow(name, place, isFor);
            return text.takeSign(';');
        }

        private boolean takeNewName() {
            if (!text.isName()) {
                return text.refuse(CANNOT_STAND);
            }
            if (draft.stoneNamed(text.word) != NONE || draft.crowNamed(text.word) != NONE) {
                return text.refuse(WRONG_NAME);
            }
            text.step();
            return true;
        }
    }

    /** The TERMS as a code: a STEP, or an END, in each place, named by its word (a when by that of its TEST). */
    private static final class Terms {
        private boolean told;
        private int steps;
        private int size;
        private final int[] op = new int[CODE];
        private final int[] a = new int[CODE];
        private final int[] b = new int[CODE];
        private final int[] c = new int[CODE];
        /** Of a STEP with a block: the place behind its END; of an END: where its block begins. */
        private final int[] jump = new int[CODE];

        private void forget() {
            told = false;
            steps = 0;
            size = 0;
        }

        private void copyFrom(Terms other) {
            told = other.told;
            steps = other.steps;
            size = other.size;
            for (int i = 0; i < other.size && i < CODE; i++) {
                op[i] = other.op[i];
                a[i] = other.a[i];
                b[i] = other.b[i];
                c[i] = other.c[i];
                jump[i] = other.jump[i];
            }
        }

        private void add(int newOp, int newA, int newB, int newC) {
            if (size >= CODE) {
                return;
            }
            op[size] = newOp;
            a[size] = newA;
            b[size] = newB;
            c[size] = newC;
            jump[size] = NONE;
            size++;
            if (newOp != END) {
                steps++;
            }
        }

        private void close(int opener) {
            add(END, 0, 0, 0);
            jump[size - 1] = opener;
            jump[opener] = size;
        }
    }

    /** Reads a TEXT of TERMS into a draft; NAMES are those of the WALL that is there. */
    private static final class TermsReader {
        private final Text text;
        private final Wall wall;
        private final Terms draft = new Terms();
        private final int[] openers = new int[DEPTH];
        private int depth;
        private int named;

        private TermsReader(Text text, Wall wall) {
            this.text = text;
            this.wall = wall;
        }

        private boolean reads() {
            depth = 0;
            draft.forget();
            draft.told = true;
            boolean isGood = true;
            for (int i = 0; i <= TERMS_BYTES && isGood && !text.isAtEnd(); i++) {
                isGood = text.isWord(END) ? readEnd() : beginsStep() && readStep();
            }
            return isGood && (depth == 0 || text.refuse(CANNOT_STAND));
        }

        private boolean readEnd() {
            if (depth <= 0) {
                return text.refuse(CANNOT_STAND);
            }
            depth--;
            draft.close(openers[depth]);
            text.step();
            return text.takeSign(';');
        }

        private boolean beginsStep() {
            if (!text.isStepWord()) {
                return text.refuse(CANNOT_STAND);
            }
            if (draft.steps >= STEPS) {
                return text.refuse(ONE_TOO_MANY);
            }
            if (text.isWord(WHEN) || text.isWord(LOOP)) {
                if (depth >= DEPTH) {
                    return text.refuse(TOO_DEEP);
                }
                openers[depth] = draft.size;
                depth++;
            }
            return true;
        }

        private boolean readStep() {
            int word = text.key;
            text.step();
            boolean isGood;
            switch (word) {
                case YEAR: isGood = readCount(word, YEARS_A_STEP); break;
                case LOOP: isGood = readCount(word, MOST_ROUNDS); break;
                case TRY: isGood = readTry(); break;
                case FLY: isGood = readFly(); break;
                case WHEN: isGood = readTest(); break;
                case ANY:
                case STOP:
                    draft.add(word, 0, 0, 0);
                    isGood = true;
                    break;
                default: isGood = readStone(word); break;
            }
            return isGood && text.takeSign(';');
        }

        private boolean readCount(int word, int most) {
            if (!text.takeNumber(1, most)) {
                return false;
            }
            draft.add(word, text.number, 0, 0);
            return true;
        }

        private boolean readStone(int word) {
            if (!takeStone()) {
                return false;
            }
            draft.add(word, named, 0, 0);
            return true;
        }

        private boolean readTry() {
            if (!text.takeNumber(0, MOST_GUILT)) {
                return false;
            }
            int guilt = text.number;
            if (!text.takeNumber(0, wall.places - 1)) {
                return false;
            }
            int place = text.number;
            if (!text.takeNumber(0, 1)) {
                return false;
            }
            draft.add(TRY, guilt, place, text.number);
            return true;
        }

        private boolean readFly() {
            if (!text.isName()) {
                return text.refuse(CANNOT_STAND);
            }
            int crow = wall.crowNamed(text.word);
            if (crow == NONE) {
                return text.refuse(WRONG_NAME);
            }
            text.step();
            if (!takeStone()) {
                return false;
            }
            draft.add(FLY, crow, named, 0);
            return true;
        }

        private boolean readTest() {
            boolean isTurns = text.isWord(TURNS);
            boolean isMoss = text.isWord(MOSS);
            if (!isTurns && !isMoss && !text.isWord(STANDS)) {
                return text.refuse(CANNOT_STAND);
            }
            int test = text.key;
            text.step();
            if (!takeStone() || isTurns && !text.takeNumber(0, wall.places - 1) || isMoss && !text.takeComparison()) {
                return false;
            }
            int second = text.number;
            if (isTurns && !text.takeNumber(0, MOST_GUILT) || isMoss && !text.takeNumber(0, MOST_MOSS)) {
                return false;
            }
            draft.add(test, named, second, text.number);
            return true;
        }

        private boolean takeStone() {
            if (!text.isName()) {
                return text.refuse(CANNOT_STAND);
            }
            named = wall.stoneNamed(text.word);
            if (named == NONE) {
                return text.refuse(WRONG_NAME);
            }
            text.step();
            return true;
        }
    }

    /** TERMS lived by draws, and what came of them. */
    private static final class Life {
        private final Terms terms;
        private final Wall wall;
        private final int[] rounds = new int[CODE];
        private int drawn;
        private int done;
        private int missed;
        private int years;
        private int condemned;
        private int wrong;
        private boolean leftOver;

        private Life(Terms terms, Wall wall) {
            this.terms = terms;
            this.wall = wall;
        }

        private void run(int seed) {
            drawn = seed;
            done = 0;
            missed = 0;
            years = wall.year;
            condemned = wall.condemned;
            wrong = wall.wrong;
            leftOver = false;
            int at = 0;
            for (int tick = 0; tick < TICKS && at >= 0 && at < terms.size && !leftOver; tick++) {
                boolean isStep = terms.op[at] != END;
                if (isStep && done >= STEPS_LIVED) {
                    leftOver = true;
                } else {
                    done += isStep ? 1 : 0;
                    missed += isDone(at) ? 0 : 1;
                    at = whereNext(at);
                }
            }
            years = wall.year - years;
            condemned = wall.condemned - condemned;
            wrong = wall.wrong - wrong;
        }

        private int whereNext(int at) {
            int jump = terms.jump[at];
            switch (terms.op[at]) {
                case STOP:
                    return terms.size;
                case LOOP:
                    rounds[at] = terms.a[at];
                    return isEmptyBlock(at) ? jump : at + 1;
                case TURNS:
                case STANDS:
                case MOSS:
                    return holds(at) ? at + 1 : jump;
                case END:
                    return goesRound(jump) ? jump + 1 : at + 1;
                default:
                    return at + 1;
            }
        }

        private boolean goesRound(int opener) {
            if (opener < 0 || opener >= terms.size || terms.op[opener] != LOOP) {
                return false;
            }
            rounds[opener]--;
            return rounds[opener] > 0;
        }

        private boolean isEmptyBlock(int at) {
            return at + 1 < terms.size && terms.op[at + 1] == END;
        }

        private boolean holds(int at) {
            int stone = terms.a[at];
            if (!wall.isPlace(stone)) {
                return false;
            }
            switch (terms.op[at]) {
                case STANDS:
                    return wall.isStone(stone);
                case TURNS:
                    return wall.isStone(stone) && terms.c[at] > wall.mercyFor(stone, terms.b[at], 0);
                default:
                    return compares(wall.moss[stone], terms.b[at], terms.c[at]);
            }
        }

        private static boolean compares(int moss, int sign, int number) {
            if (sign == '<') {
                return moss < number;
            }
            return sign == '>' ? moss > number : moss == number;
        }

        /** Does what a STEP says; false if it is MISSED. */
        private boolean isDone(int at) {
            int a = terms.a[at];
            int b = terms.b[at];
            boolean did = terms.c[at] == 1;
            switch (terms.op[at]) {
                case YEAR: return wall.passYears(a);
                case TRY: return wall.holdTrial(a, b, did) == did;
                case ANY: return triesAny();
                case KIND: return reshapes(a, MOST_LENIENT);
                case HARSH: return reshapes(a, 0);
                case CLEAR: return clears(a);
                case FLY: return flies(a, b);
                default: return true;
            }
        }

        private boolean triesAny() {
            if (wall.places == 0) {
                return false;
            }
            boolean did = draw(MOST_ODDS) < wall.odds;
            int guilt = draw(GUILT_DRAWN);
            return wall.holdTrial(guilt, draw(wall.places), did) == did;
        }

        private int draw(int by) {
            drawn = (drawn * 2971 + 10903) % 65536;
            return by > 0 ? drawn / 8 % by : 0;
        }

        private boolean reshapes(int stone, int lenient) {
            if (!wall.isStone(stone)) {
                return false;
            }
            wall.lenient[stone] = lenient;
            wall.moss[stone] = 0;
            return true;
        }

        private boolean clears(int stone) {
            if (!wall.isStone(stone) || wall.moss[stone] == 0) {
                return false;
            }
            wall.moss[stone] = 0;
            return true;
        }

        private boolean flies(int crow, int stone) {
            if (!wall.isCrow(crow) || !wall.isStone(stone) || wall.crowAt[crow] == stone) {
                return false;
            }
            wall.moveCrow(crow, stone);
            return true;
        }
    }

    /** FITS, ASK: who turns tells a bound of the guilt, so what fits is one row from the least to the greatest. */
    private static final class Guess {
        private int least;
        private int greatest;
        private int askedAt;
        private int askedStone;

        private void begin() {
            least = 0;
            greatest = MOST_FIT;
        }

        private void tell(int mercy, boolean hasTurned) {
            if (hasTurned) {
                least = Math.max(least, mercy + 1);
            } else {
                greatest = Math.min(greatest, mercy);
            }
        }

        private int count() {
            return Math.max(0, greatest - least + 1);
        }

        private void findQuestion(Wall wall) {
            int best = MOST_FIT + 2;
            for (int place = 0; place < wall.places; place++) {
                for (int stone = 0; stone < wall.places; stone++) {
                    if (wall.isStone(stone)) {
                        int greater = greaterPart(wall.mercyFor(stone, place, 0));
                        if (greater < best) {
                            best = greater;
                            askedAt = place;
                            askedStone = stone;
                        }
                    }
                }
            }
        }

        private int greaterPart(int mercy) {
            int all = count();
            int turning = Math.min(all, Math.max(0, greatest - mercy));
            return Math.max(turning, all - turning);
        }
    }

    /** CUT: the fewest stones to cut so that told verdicts hold. */
    private static final class Cutter {
        private final int[] turning = new int[TOLD_VERDICTS];
        private final boolean[] isCondemned = new boolean[TOLD_VERDICTS];
        private final int[] counts = new int[TOLD_VERDICTS];
        private int told;
        private boolean isHopeless;
        private int stones;
        private int half;
        private int kind;
        private int harsh;
        private int fewest;

        private void begin(int newStones) {
            stones = newStones;
            half = Integer.bitCount(newStones) / 2;
            told = 0;
            isHopeless = false;
        }

        /** Who stands at a GAP is FREE however stones are cut. */
        private void tell(boolean atStone, int newTurning, boolean toldCondemned) {
            if (!atStone) {
                isHopeless = isHopeless || toldCondemned;
            } else if (told < TOLD_VERDICTS) {
                turning[told] = newTurning;
                isCondemned[told] = toldCondemned;
                told++;
            }
        }

        private boolean findWay() {
            int most = isHopeless ? NONE : Integer.bitCount(stones);
            for (int cuts = 0; cuts <= most; cuts++) {
                if (cutFrom(0, cuts, 0, 0)) {
                    fewest = cuts;
                    return true;
                }
            }
            return false;
        }

        /** Tries the ways in the document's order from a place on, so the first that is found is the one. */
        private boolean cutFrom(int place, int left, int kindSet, int harshSet) {
            if (place > PLACES || !canHold(place, left, kindSet, harshSet)) {
                return false;
            }
            if (left == 0 || place == PLACES) {
                kind = kindSet;
                harsh = harshSet;
                return true;
            }
            int stone = stones & 1 << place;
            if (cutFrom(place + 1, left, kindSet, harshSet)) {
                return true;
            }
            return stone != 0 && (cutFrom(place + 1, left - 1, kindSet | stone, harshSet)
                || cutFrom(place + 1, left - 1, kindSet, harshSet | stone));
        }

        /** Whether the verdicts, each for itself and two by two, can still hold by the cuts left from a place on. */
        private boolean canHold(int place, int left, int kindSet, int harshSet) {
            int rest = stones & -1 << place;
            for (int i = 0; i < told; i++) {
                counts[i] = Integer.bitCount(turning[i] & ~kindSet | harshSet);
                int helped = isCondemned[i] ? rest & ~turning[i] : rest & turning[i];
                int help = Math.min(left, Integer.bitCount(helped));
                int count = isCondemned[i] ? counts[i] + help : counts[i] - help;
                if (count > half != isCondemned[i]) {
                    return false;
                }
            }
            return canPart(rest, left);
        }

        /**
         * More must turn from each who is condemned than from each who is free, and only a cut of a stone that turns
         * from the second alone helps: without this look the search for a way that is not there would be long.
         */
        private boolean canPart(int rest, int left) {
            for (int i = 0; i < told; i++) {
                for (int j = 0; j < told && isCondemned[i]; j++) {
                    int help = Math.min(left, Integer.bitCount(rest & turning[j] & ~turning[i]));
                    if (!isCondemned[j] && counts[i] - counts[j] + help < 1) {
                        return false;
                    }
                }
            }
            return true;
        }

        private int cutOn(int place) {
            if ((kind >> place & 1) == 1) {
                return 1;
            }
            return (harsh >> place & 1) == 1 ? 2 : 0;
        }
    }

    /**
     * GAME: a crow of AGAINST is worth something on a stone that it makes turn, one of FOR on a stone that it keeps
     * from turning, and each on what the other wants; so how many there are of both tells how the game ends.
     */
    private static final class Debate {
        private final Wall wall;
        private int guilt;
        private int place;
        private int swayed;
        private int kept;

        private Debate(Wall wall) {
            this.wall = wall;
        }

        private void begin(int newGuilt, int newPlace) {
            guilt = newGuilt;
            place = newPlace;
            swayed = 0;
            kept = 0;
            for (int p = 0; p < wall.places; p++) {
                if (canSway(p)) {
                    swayed++;
                } else if (canKeep(p)) {
                    kept++;
                }
            }
        }

        /** By how much he is too guilty for a stone; it turns above 0. */
        private int excess(int stone) {
            return guilt - wall.mercyFor(stone, place, 0);
        }

        private boolean canSway(int stone) {
            return wall.isStone(stone) && excess(stone) <= 0 && excess(stone) + COUNSEL > 0;
        }

        private boolean canKeep(int stone) {
            return wall.isStone(stone) && excess(stone) > 0 && excess(stone) - COUNSEL <= 0;
        }

        private int outcome(int turns) {
            return wall.turnCount(guilt, place) + gain(turns, true, swayed, kept);
        }

        /** How many more turn by best play, with so many stones to be swayed, to be kept. */
        private static int gain(int turns, boolean isAgainst, int toSway, int toKeep) {
            if (turns <= 0 || turns > GAME_TURNS) {
                return 0;
            }
            int best = gain(turns - 1, !isAgainst, toSway, toKeep);
            if (toSway > 0) {
                int swaying = (isAgainst ? 1 : 0) + gain(turns - 1, !isAgainst, toSway - 1, toKeep);
                best = isAgainst ? Math.max(best, swaying) : Math.min(best, swaying);
            }
            if (toKeep > 0) {
                int keeping = (isAgainst ? 0 : -1) + gain(turns - 1, !isAgainst, toSway, toKeep - 1);
                best = isAgainst ? Math.max(best, keeping) : Math.min(best, keeping);
            }
            return best;
        }

        private int firstMove(int turns) {
            int best = gain(turns, true, swayed, kept);
            for (int p = 0; p < wall.places; p++) {
                if (wall.isStone(p) && gainBy(p, turns) == best) {
                    return p;
                }
            }
            return NONE;
        }

        private int gainBy(int stone, int turns) {
            if (canSway(stone)) {
                return 1 + gain(turns - 1, false, swayed - 1, kept);
            }
            return gain(turns - 1, false, swayed, canKeep(stone) ? kept - 1 : kept);
        }
    }
}
