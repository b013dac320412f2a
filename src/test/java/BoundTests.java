import java.util.function.IntConsumer;

/** The sentences of the document that name a boundary case outside of the TEXTS, each on both sides of its bound. */
public final class BoundTests extends Checks {
    private static final String NAMES = "abcdefghij";
    private static final String CROWS = "crow r on a for;crow s on a against;crow t on a for;crow u on a for;";

    public static void main(String[] args) {
        newObject();
        trayLengths();
        numbersAreCut();
        pouredRows();
        emptyWall();
        onlyGaps();
        numbersOfCalls();
        farRound();
        mercyBelowZero();
        moreThanMercy();
        moreThanHalf();
        strengthLeft();
        whoWentWithIt();
        mossAndYears();
        mossCopied();
        crowsFlyOff();
        standAndFall();
        leastGuilt();
        yearsUntilFree();
        fitsAtTheBounds();
        askAtTheBounds();
        cutAtTheBounds();
        cutsInOrder();
        windowsAtTheBounds();
        walksRound();
        longestRound();
        gameTurns();
        lots();
        couplesAtTheBounds();
        draws();
        stepsLived();
        whatIsMissed();
        loopsAndWhens();
        seeds();
        marks();
        end("all bounds hold");
    }

    private static void take(ParapetCourt x, String what, IntConsumer call, int... numbers) {
        for (int number : numbers) {
            call.accept(number);
            is(what + " " + number + ": STATUS", x.status(), 0);
        }
    }

    private static void refuse(ParapetCourt x, String what, int status, IntConsumer call, int... numbers) {
        for (int number : numbers) {
            call.accept(number);
            is(what + " " + number + ": STATUS", x.status(), status);
        }
    }

    /** Both bounds are taken, what is beyond each is refused with 5. */
    private static void bound(ParapetCourt x, String what, int low, int high, IntConsumer call) {
        take(x, what, call, low, high);
        refuse(x, what, 5, call, low - 1, high + 1, Integer.MIN_VALUE, Integer.MAX_VALUE);
    }

    // ---- promises 1 to 8

    private static void newObject() {
        sentence(1, "TRAYS are MISSING, a WALL of no PLACES (ODDS 8), no TERMS, MARKS, an empty tape; STATUS 0, the FRACTION 0 by 1");
        ParapetCourt x = new ParapetCourt();
        is("STATUS", x.status(), 0);
        is("the FRACTION", x.top() * 10 + x.bottom(), 1);
        for (int tray = 0; tray < 4; tray++) {
            not(x, "a TRAY", x.copyMoss(tray), 3);
        }
        is("PLACES, STONES, CROWS", x.many(0) + x.many(1) + x.many(2), 0);
        is("ODDS", x.many(3), 8);
        not(x, "TERMS", x.live(0), 8);
        not(x, "MARKS", x.back(), 8);
        not(x, "the tape", x.wall(1), 5);
        not(x, "lived", x.lived(0), 8);
        is("a new one for itself", new ParapetCourt().feed(0, 0, 0, 0, 0), 20);
        is("and another", new ParapetCourt().feed(0, 0, 0, 0, 0), 20);
    }

    private static void trayLengths() {
        sentence(5, "TRAYS, 0 to 3; a row of so many numbers (at most 60; 5), all 0 (1; 5; 6)");
        ParapetCourt x = new ParapetCourt();
        for (int tray = 0; tray < 4; tray++) {
            fine(x, "60", x.tray(tray, tray, 60));
            fine(x, "the last place", x.read(tray, 59), 0);
            not(x, "behind the last place", x.read(tray, 60), 4);
            fine(x, "the last place is written to", x.write(tray, 59, 5));
            not(x, "61", x.tray(tray, tray, 61), 5);
            not(x, "-1", x.tray(tray, tray, -1), 6);
            fine(x, "what was refused made no new row", x.read(tray, 59), 5);
            fine(x, "59", x.tray(tray, tray, 59));
            not(x, "no last place", x.read(tray, 59), 4);
            x.write(tray, 0, 6);
            fine(x, "60 anew", x.tray(tray, tray, 60));
            fine(x, "all 0: the last", x.read(tray, 59), 0);
            fine(x, "all 0: the first", x.read(tray, 0), 0);
            fine(x, "1", x.tray(tray, tray, 1));
            fine(x, "the only place", x.read(tray, 0), 0);
            not(x, "behind it", x.read(tray, 1), 4);
            fine(x, "0", x.tray(tray, tray, 0));
            not(x, "no place", x.read(tray, 0), 4);
            not(x, "no place", x.write(tray, 0, 0), 4);
        }
        not(x, "TRAY 4", x.tray(4, 0, 0), 1);
        not(x, "TRAY -1", x.tray(-1, 0, 0), 1);
        not(x, "sort 4", x.tray(0, 4, 0), 1);
        not(x, "sort -1", x.tray(0, -1, 0), 1);
    }

    private static void keeps(int sort, long written, long read) {
        ParapetCourt x = new ParapetCourt();
        x.tray(1, sort, 3);
        fine(x, "write of " + written, x.write(1, 1, written));
        fine(x, "sort " + sort + ": " + written, x.read(1, 1), read);
        is("the places beside", x.read(1, 0) + x.read(1, 2), 0);
    }

    private static void numbersAreCut() {
        sentence(6, "numbers of 8 bits (sort 0), 16 (1), 32 (2) or 64 (3), with sign; what is written is cut to these");
        for (int sort = 0; sort < 3; sort++) {
            long most = (1L << (8 << sort) - 1) - 1;
            long whole = 1L << (8 << sort);
            keeps(sort, most, most);
            keeps(sort, most + 1, -most - 1);
            keeps(sort, -most - 1, -most - 1);
            keeps(sort, -most - 2, most);
            keeps(sort, whole - 1, -1);
            keeps(sort, whole, 0);
            keeps(sort, whole + 1, 1);
            keeps(sort, -whole, 0);
            keeps(sort, -whole - 1, -1);
            keeps(sort, -1, -1);
            keeps(sort, Long.MAX_VALUE, -1);
            keeps(sort, Long.MIN_VALUE, 0);
        }
        keeps(3, Long.MAX_VALUE, Long.MAX_VALUE);
        keeps(3, Long.MIN_VALUE, Long.MIN_VALUE);
        keeps(3, 1L << 32, 1L << 32);
        sentence(7, "STATUS tells NONE from -1");
        ParapetCourt x = new ParapetCourt();
        put(x, 0, -1);
        fine(x, "-1", x.read(0, 0), -1);
        not(x, "NONE", x.read(0, 1), 4);
    }

    private static void pouredRows() {
        sentence(8, "from place i on of a TRAY come to place j on of another one, or the same, as they were");
        ParapetCourt x = new ParapetCourt();
        put(x, 0, 1, 2, 3, 4, 5);
        put(x, 1, 9, 9, 9);
        fine(x, "up to the last of both", x.pour(0, 2, 1, 0, 3));
        is("all three", x.read(1, 0) * 100 + x.read(1, 1) * 10 + x.read(1, 2), 345);
        not(x, "one more to it", x.pour(0, 1, 1, 0, 4), 4);
        not(x, "one more from it", x.pour(0, 3, 1, 0, 3), 4);
        fine(x, "the last alone", x.pour(0, 4, 1, 2, 1));
        not(x, "one behind it", x.pour(0, 5, 1, 2, 1), 4);
        not(x, "to one behind it", x.pour(0, 4, 1, 3, 1), 4);
        fine(x, "none", x.pour(0, 0, 1, 0, 0));
        fine(x, "none from the end to the end", x.pour(0, 5, 1, 3, 0));
        not(x, "-1", x.pour(0, 0, 1, 0, -1), 6);
        fine(x, "up in the same", x.pour(0, 0, 0, 1, 4));
        is("as they were", x.read(0, 1) * 1000 + x.read(0, 2) * 100 + x.read(0, 3) * 10 + x.read(0, 4), 1234);
        put(x, 0, 1, 2, 3, 4, 5);
        fine(x, "down in the same", x.pour(0, 1, 0, 0, 4));
        is("as they were", x.read(0, 0) * 1000 + x.read(0, 1) * 100 + x.read(0, 2) * 10 + x.read(0, 3), 2345);
        fine(x, "all onto itself", x.pour(0, 0, 0, 0, 5));
        is("as they were", x.read(0, 4), 5);
        x.tray(2, 3, 0);
        fine(x, "none of a TRAY of no numbers", x.pour(2, 0, 2, 0, 0));
        not(x, "one of it", x.pour(2, 0, 0, 0, 1), 4);
        for (int sort = 0; sort < 4; sort++) {
            x.tray(3, sort, 1);
            x.write(3, 0, -128);
            fine(x, "like sorts", x.pour(3, 0, 3, 0, 1));
            is("with its sign", x.read(3, 0), -128);
            x.pour(3, 0, 0, 0, 1);
            is("unlike sorts, but for 64 bits", x.status(), sort == 3 ? 0 : 11);
        }
    }

    // ---- what is empty

    private static void emptyWall() {
        sentence(1, "a WALL of no PLACES");
        ParapetCourt x = new ParapetCourt();
        x.tray(0, 0, 0);
        fine(x, "copyMoss", x.copyMoss(0), 0);
        fine(x, "year", x.year(99), 0);
        is("the YEAR", x.many(4), 99);
        fine(x, "rule", x.rule(16));
        fine(x, "longest", x.longest(), 0);
        fine(x, "fits", x.fits(0, 0), 61);
        fine(x, "fitsBy least", x.fitsBy(0, 0, 0), 0);
        fine(x, "fitsBy greatest", x.fitsBy(0, 0, 1), 60);
        not(x, "ask", x.ask(0, 0, 0), 8);
        fine(x, "cuts", x.cuts(0, 0), 0);
        not(x, "cutOf", x.cutOf(0, 0, 0), 2);
        fraction(x, "none or more lean", x.couples(0), 1, 1);
        fraction(x, "one or more lean", x.couples(1), 0, 1);
        not(x, "lot", x.lot(0, 0), 8);
        not(x, "stand", x.stand(0), 8);
        not(x, "fall", x.fall(0), 8);
        refuse(x, "a PLACE", 2, p -> x.stone(p, 0), 0, -1);
        refuse(x, "a PLACE", 2, p -> x.judge(0, p, true), 0, -1);
        refuse(x, "a PLACE", 2, p -> x.far(p, p), 0, -1);
        refuse(x, "a PLACE", 2, p -> x.least(p), 0, -1);
        refuse(x, "a PLACE", 2, p -> x.game(0, p, 0), 0, -1);
        refuse(x, "a PLACE", 2, p -> x.open(p), 0, -1);
        refuse(x, "a PLACE", 2, p -> x.mend(p, 1, 1), 0, -1);
        refuse(x, "a CROW", 2, c -> x.crow(c, 1), 0, -1);
        fine(x, "mark", x.mark(), 1);
        fine(x, "back", x.back(), 0);
        fine(x, "TERMS", terms(x, "any;year 1;stop;"), 3);
        fine(x, "lived", x.live(0), 3);
        fine(x, "any without PLACES is MISSED", x.lived(0), 1);
        fraction(x, "the mean", x.mean(0, 20), 0, 1);
    }

    private static void onlyGaps() {
        sentence(13, "no STONES");
        ParapetCourt x = of("gap;gap;gap;");
        put(x, 0, 99, 1, 0, 99, 1, 1);
        is("PLACES, STONES, their set, MOSS", x.many(0) * 1000 + x.many(1) * 100 + x.many(8) * 10 + x.many(9), 3000);
        fine(x, "year", x.year(9), 0);
        fine(x, "turned", x.turned(99, 0), 0);
        fine(x, "verdict", x.verdict(99, 0), 0);
        fine(x, "a TRIAL", x.judge(99, 0, true), 0);
        is("it was wrong", x.many(5) * 100 + x.many(6) * 10 + x.many(7), 101);
        not(x, "least", x.least(0), 8);
        fine(x, "freeIn", x.freeIn(99, 0), 0);
        fine(x, "cuts of FREE", x.cuts(0, 1), 0);
        not(x, "cuts of CONDEMNED", x.cuts(0, 2), 8);
        fine(x, "game", x.game(99, 0, 4), 0);
        not(x, "moveOf", x.moveOf(99, 0, 4), 8);
        fine(x, "longest", x.longest(), 0);
        not(x, "walk", x.walk(0, 0), 8);
        not(x, "lot", x.lot(0, 0), 8);
        fraction(x, "couples", x.couples(0), 1, 1);
        not(x, "windows", x.windows(99, 0), 9);
        fine(x, "any", terms(x, "any;"), 1);
        fine(x, "there are PLACES: it is tried", x.live(0), 1);
        is("a TRIAL more", x.many(5), 2);
    }

    // ---- numbers of calls

    private static void numbersOfCalls() {
        ParapetCourt x = of("stone a lenient 5 moss 1;stone b lenient 5;gap;", "any;");
        ParapetCourt y = of("stone a lenient 3 strong 9;stone b lenient 8 strong 9;stone c lenient 30;");
        sentence(17, "GUILT 0 to 99");
        bound(y, "judge", 0, 99, g -> y.judge(g, 0, g == 99));
        is("just two were tried", y.many(5), 2);
        sentence(28, "so GUILTY (0 to 99)");
        bound(x, "turned", 0, 99, g -> x.turned(g, 0));
        bound(x, "verdict", 0, 99, g -> x.verdict(g, 0));
        bound(x, "stand", 0, 99, x::stand);
        bound(x, "fall", 0, 99, x::fall);
        bound(x, "freeIn at a GAP", 0, 99, g -> x.freeIn(g, 2));
        bound(x, "game", 0, 99, g -> x.game(g, 0, 2));
        bound(x, "moveOf", 0, 99, g -> x.moveOf(g, 0, 2));
        bound(x, "lot", 0, 99, g -> x.lot(g, 0));
        ParapetCourt z = of("stone a lenient 0;stone b lenient 0;stone c lenient 0;crow d on a against;");
        fine(z, "windows 0: two that do not turn", z.windows(0, 0), 2);
        fine(z, "windowSet 0", z.windowSet(0, 0), 6);
        not(z, "windows 99: all turn, his own stays", z.windows(99, 0), 8);
        not(z, "windowSet 99", z.windowSet(99, 0), 8);
        refuse(z, "windows", 5, g -> z.windows(g, 0), -1, 100);
        refuse(z, "windowSet", 5, g -> z.windowSet(g, 0), -1, 100);
        sentence(18, "So many YEARS (1 to 99)");
        bound(x, "year", 1, 99, x::year);
        is("100 went by", x.many(4), 100);
        sentence(19, "LENIENT of a STONE (0 to 30)");
        bound(x, "carve", 0, 30, l -> x.carve(0, l));
        is("the latest", x.stone(0, 0), 30);
        sentence(22, "LENIENT (0 to 30), STRENGTH (1 to 9)");
        bound(x, "lenient", 0, 30, l -> {
            x.open(1);
            x.mend(1, l, 1);
        });
        bound(x, "strong", 1, 9, s -> {
            x.open(1);
            x.mend(1, 0, s);
        });
        sentence(25, "ODDS (0 to 16)");
        bound(x, "rule", 0, 16, x::rule);
        is("the latest", x.many(3), 16);
        sentence(13, "what 0 to 9");
        bound(x, "many", 0, 9, x::many);
        sentence(14, "what 0 to 4");
        bound(x, "stone", 0, 4, what -> x.stone(0, what));
        x.hatch(0, true);
        sentence(15, "what 0, 1");
        bound(x, "crow", 0, 1, what -> x.crow(0, what));
        sentence(46, "what 0, 1");
        bound(x, "lot", 0, 1, what -> x.lot(5, what));
        sentence(49, "what 0 to 4");
        x.live(0);
        bound(x, "lived", 0, 4, x::lived);
        x.tray(0, 0, 0);
        sentence(35, "what 0, 1");
        bound(x, "fitsBy", 0, 1, what -> x.fitsBy(0, 0, what));
        sentence(36, "what 0, 1");
        ParapetCourt w = of("stone a lenient 5;");
        w.tray(0, 0, 0);
        bound(w, "ask", 0, 1, what -> w.ask(0, 0, what));
    }

    // ---- the ring

    private static void farRound() {
        sentence(26, "by the fewest steps round the ring, one way or the other");
        for (int places = 1; places <= 10; places++) {
            ParapetCourt x = of(times("gap;", places));
            for (int pair = 0; pair < places * places; pair++) {
                int from = pair / places;
                int to = pair % places;
                int steps = 0;
                while ((from + steps) % places != to && Math.floorMod(from - steps, places) != to) {
                    steps++;
                }
                is("from " + from + " to " + to + " of " + places, x.far(from, to), steps);
            }
            fine(x, "the last one beside the first", x.far(places - 1, 0), places == 1 ? 0 : 1);
            not(x, "no such PLACE", x.far(places, 0), 2);
            not(x, "no such PLACE", x.far(0, places), 2);
        }
    }

    private static void mercyBelowZero() {
        sentence(27, "LENIENT, MOSS, FAR, 3 for each CROW FOR, less 3 for each AGAINST, together (below 0, too)");
        ParapetCourt x = of("stone a lenient 0;crow b on a against;crow c on a against;crow d on a against;crow e on a against;gap;");
        fine(x, "the least", x.mercy(0, 0), -12);
        fine(x, "its own PLACE", x.stone(0, 4), -12);
        fine(x, "from beside", x.mercy(0, 1), -11);
        x.carve(0, 11);
        fine(x, "-1 that is no NONE", x.mercy(0, 0), -1);
        fine(x, "-1 that is no NONE", x.stone(0, 4), -1);
        fine(x, "from beside", x.mercy(0, 1), 0);
        x = of("stone a lenient 30 moss 9;" + times("gap;", 9) + "crow b on a for;crow c on a for;crow d on a for;crow e on a for;");
        fine(x, "the most", x.mercy(0, 5), 56);
        fine(x, "its own PLACE", x.stone(0, 4), 51);
        x = of("stone a lenient 5;crow b on a for;crow c on a against;");
        fine(x, "one and the other", x.mercy(0, 0), 5);
    }

    // ---- who turns, VERDICTS, TRIALS

    private static void moreThanMercy() {
        sentence(28, "It TURNS .. if that is more than MERCY");
        ParapetCourt x = of("stone a lenient 5;stone b lenient 30;stone c lenient 0;crow d on c against;");
        fine(x, "as much", x.turned(5, 0), 4);
        fine(x, "one more", x.turned(6, 0), 5);
        fine(x, "as much, 1 further off", x.turned(6, 1), 4);
        fine(x, "one more, 1 further off", x.turned(7, 1), 5);
        fine(x, "0 is more than -2", x.turned(0, 0), 4);
        x.carve(2, 2);
        fine(x, "0 is not more than 0", x.turned(0, 0), 0);
        x.carve(2, 3);
        fine(x, "1 is not more than 1", x.turned(1, 0), 0);
        fine(x, "from a GAP, too", of("gap;stone a lenient 0;").turned(2, 0), 2);
    }

    private static void moreThanHalf() {
        sentence(29, "CONDEMNED, if more than half of all STONES that there are TURN from him, and he does not stand at a GAP");
        // So many of the STONES turn from 9 and the others don't, wherever he stands.
        for (int stones = 1; stones <= 10; stones++) {
            for (int turning = 0; turning <= stones; turning++) {
                StringBuilder text = new StringBuilder();
                for (int i = 0; i < stones; i++) {
                    text.append("stone ").append(NAMES.charAt(i)).append(i < turning ? " lenient 0;" : " lenient 30;");
                }
                ParapetCourt x = of(text.toString());
                int due = 2 * turning > stones ? 1 : 0;
                fine(x, turning + " of " + stones, x.verdict(9, 0), due);
                fine(x, turning + " of " + stones + " tried", x.judge(9, stones - 1, due == 1), due);
                is("rightly", x.many(7), 0);
            }
        }
        ParapetCourt x = of("stone a lenient 9;gap;");
        fine(x, "as much as MERCY", x.verdict(9, 0), 0);
        fine(x, "one more", x.verdict(10, 0), 1);
        fine(x, "tried with as much", x.judge(9, 0, false), 0);
        fine(x, "tried with one more", x.judge(10, 0, true), 1);
        x = of("stone a lenient 0;stone b lenient 0;stone c lenient 30;stone d lenient 30;gap;");
        fine(x, "half", x.verdict(9, 0), 0);
        fine(x, "half at a GAP", x.verdict(9, 4), 0);
        x.open(3);
        fine(x, "GAPS don't count", x.verdict(9, 0), 1);
        fine(x, "not at a GAP", x.verdict(99, 3), 0);
        fine(x, "not at a GAP that was told", x.verdict(99, 4), 0);
    }

    private static void strengthLeft() {
        sentence(17, "has 1 less STRENGTH; with none left it CRUMBLES: it is a GAP");
        for (int strong = 1; strong <= 9; strong++) {
            ParapetCourt x = of("stone a lenient 0 strong " + strong + ";gap;");
            for (int left = strong - 1; left > 0; left--) {
                fine(x, "wrongly", x.judge(50, 0, false), 1);
                fine(x, "STRENGTH left", x.stone(0, 2), left);
            }
            fine(x, "the last time", x.judge(50, 0, false), 1);
            not(x, "a GAP", x.stone(0, 2), 8);
            fine(x, "FREE at it", x.judge(50, 0, false), 0);
            is("TRIALS, CONDEMNED, wrong", x.many(5) * 10000 + x.many(6) * 100 + x.many(7), (strong + 1) * 10000 + strong * 101);
        }
        sentence(18, "MOSS of a STONE that CRUMBLED is none");
        ParapetCourt x = of("stone a lenient 0 moss 9 strong 1;stone b lenient 0 moss 2;");
        x.judge(50, 0, false);
        is("MOSS of all STONES", x.many(9), 2);
        fine(x, "a YEAR more", x.year(1), 3);
        put(x, 0, 5, 5);
        x.copyMoss(0);
        is("0 of GAPS", x.read(0, 0) * 10 + x.read(0, 1), 3);
    }

    private static void whoWentWithIt() {
        sentence(17, "wrong (CONDEMNED who did not, FREE who did): that TURNED, if CONDEMNED, that did not, if FREE");
        String text = "stone a lenient 0;stone b lenient 0;stone c lenient 30;gap;";
        int[][] due = {{9, 0, 0, 1, 223}, {9, 0, 1, 1, 333}, {0, 0, 0, 0, 333}, {0, 0, 1, 0, 222}, {9, 3, 0, 0, 333}, {9, 3, 1, 0, 332},
            {99, 3, 1, 0, 333}, {99, 3, 0, 0, 333}, {99, 0, 0, 1, 222}};
        for (int[] d : due) {
            ParapetCourt x = of(text);
            String what = d[0] + " at " + d[1] + (d[2] == 1 ? ", did" : ", did not");
            fine(x, what, x.judge(d[0], d[1], d[2] == 1), d[3]);
            is(what + ": STRENGTH", x.stone(0, 2) * 100 + x.stone(1, 2) * 10 + x.stone(2, 2), d[4]);
            is(what + ": wrong", x.many(7), d[3] == d[2] ? 0 : 1);
            is(what + ": CONDEMNED", x.many(6), d[3]);
        }
    }

    private static void mossAndYears() {
        sentence(18, "MOSS of each STONE is 1 more (9 at most)");
        ParapetCourt x = of("stone a lenient 0 moss 7;");
        fine(x, "8", x.year(1), 8);
        fine(x, "9", x.year(1), 9);
        fine(x, "9 still", x.year(1), 9);
        fine(x, "all of it", x.clear(0), 9);
        fine(x, "9 by nine", x.year(9), 9);
        x.clear(0);
        fine(x, "8 by eight", x.year(8), 8);
        x.clear(0);
        fine(x, "9 by ninety-nine", x.year(99), 9);
        fine(x, "90 of ten", of(stones(10, "lenient 0")).year(10), 90);
        sentence(18, "A YEAR goes by (to 9,999); 7: above 9,999");
        x = of("stone a lenient 0;");
        for (int i = 0; i < 100; i++) {
            x.year(99);
        }
        x.clear(0);
        not(x, "9,900 and 99 are 9,999: one less ahead", x.year(100), 5);
        fine(x, "to 9,998", x.year(98), 9);
        not(x, "to 10,000", x.year(2), 7);
        x.clear(0);
        fine(x, "to 9,999", x.year(1), 1);
        not(x, "to 10,000", x.year(1), 7);
        not(x, "beyond", x.year(99), 7);
        is("MOSS, the YEAR", x.many(9) * 10000 + x.many(4), 19999);
        fine(x, "a WALL anew", wall(x, "stone a lenient 0;"), 1);
        fine(x, "it is YEAR 0", x.many(4), 0);
        fine(x, "years again", x.year(99), 9);
        sentence(20, "MOSS of a STONE is 0: what it was (8: it has none)");
        fine(x, "what it was", x.clear(0), 9);
        not(x, "none", x.clear(0), 8);
        x.year(1);
        fine(x, "1", x.clear(0), 1);
    }

    private static void mossCopied() {
        sentence(16, "MOSS of all PLACES (0 of GAPS) comes to a TRAY, by numbers: how many (4)");
        for (int places = 1; places <= 10; places++) {
            ParapetCourt x = of(stones(places, "lenient 0 moss 9"));
            x.open(0);
            x.tray(0, 0, places - 1);
            not(x, "one number too few", x.copyMoss(0), 4);
            x.tray(0, 0, places);
            fine(x, "just enough", x.copyMoss(0), places);
            for (int p = 0; p < places; p++) {
                is("MOSS", x.read(0, p), p == 0 ? 0 : 9);
            }
            x.tray(0, 0, places + 1);
            x.write(0, places, 77);
            fine(x, "one more", x.copyMoss(0), places);
            is("the number behind stays", x.read(0, places), 77);
        }
    }

    private static void crowsFlyOff() {
        sentence(21, "CROWS on it are on none");
        ParapetCourt x = of("stone a lenient 5;stone b lenient 5;crow c on a for;crow d on a against;crow e on b for;crow f on a for;");
        fine(x, "carried off", x.open(0));
        for (int crow : new int[] {0, 1, 3}) {
            not(x, "on none", x.crow(crow, 0), 8);
        }
        fine(x, "the side stays", x.crow(1, 1), 0);
        fine(x, "another stays", x.crow(2, 0), 1);
        is("their number stays", x.many(2), 4);
        not(x, "a fifth still", x.hatch(1, true), 7);
        fine(x, "set again", x.mend(0, 5, 1));
        fine(x, "none on it", x.stone(0, 3), 0);
        fine(x, "MERCY without them", x.stone(0, 4), 5);
        sentence(23, "1 if it was on one ahead, else 0");
        fine(x, "from none", x.fly(1, 0), 0);
        fine(x, "from one", x.fly(2, 0), 1);
        fine(x, "both", x.stone(0, 4), 5);
        fine(x, "none on the other", x.stone(1, 3), 0);
        fine(x, "MERCY of the other", x.stone(1, 4), 5);
        not(x, "it is there", x.fly(2, 0), 9);
        sentence(17, "CROWS on it fly off: they are on no STONE");
        x.judge(50, 0, false);
        is("CRUMBLED", x.many(8), 2);
        not(x, "on none", x.crow(1, 0), 8);
        not(x, "on none", x.crow(2, 0), 8);
        fine(x, "to another", x.fly(2, 1), 0);
        sentence(24, "A CROW more, on a STONE: its number (7: a fifth)");
        x = of("stone a lenient 5;");
        for (int crow = 0; crow < 4; crow++) {
            fine(x, "its number", x.hatch(0, crow % 2 == 0), crow);
            fine(x, "where", x.crow(crow, 0), 0);
            fine(x, "its side", x.crow(crow, 1), crow % 2 == 0 ? 1 : 0);
        }
        not(x, "a fifth", x.hatch(0, true), 7);
        is("all of them", x.stone(0, 3), 15);
    }

    private static void standAndFall() {
        sentence(30, "the PLACE that is no GAP from which the fewest STONES TURN from him, of several the first");
        ParapetCourt x = of("gap;stone a lenient 4;stone b lenient 4;gap;stone c lenient 4;gap;");
        // From 1: a turns by 5, b by 6, c by 8; from 2: a by 6, b by 5, c by 7; from 4: a by 8, b by 7, c by 5.
        fine(x, "all alike, none", x.stand(4), 1);
        fine(x, "all alike, one", x.stand(5), 1);
        fine(x, "two, two, one", x.stand(6), 4);
        fine(x, "two, three, two", x.stand(7), 1);
        fine(x, "all alike, three", x.stand(8), 1);
        sentence(31, "that from which the most do");
        fine(x, "none", x.fall(4), 1);
        fine(x, "two, two, one", x.fall(6), 1);
        fine(x, "two, three, two", x.fall(7), 2);
        fine(x, "all alike, three", x.fall(8), 1);
        x = of("stone a lenient 4;stone b lenient 4;");
        fine(x, "the first is PLACE 0", x.fall(5), 0);
        sentence(30, "of several the first");
        fine(x, "the first is PLACE 0", x.stand(5), 0);
        x = of("gap;stone a lenient 30;");
        fine(x, "one STONE", x.stand(0), 1);
        fine(x, "one STONE", x.fall(0), 1);
        x.open(1);
        not(x, "no STONES", x.stand(0), 8);
        not(x, "no STONES", x.fall(0), 8);
    }

    private static void leastGuilt() {
        sentence(32, "the least GUILT (0 to 99) by which one is CONDEMNED there (8: by none)");
        ParapetCourt x = of("stone a lenient 0;crow b on a against;gap;");
        fine(x, "0", x.least(0), 0);
        x.carve(0, 2);
        fine(x, "0 by MERCY -1", x.least(0), 0);
        x.carve(0, 3);
        fine(x, "1 by MERCY 0", x.least(0), 1);
        not(x, "by none at a GAP", x.least(1), 8);
        x = of("stone a lenient 30 moss 9;crow b on a for;crow c on a for;crow d on a for;crow e on a for;");
        fine(x, "the most", x.least(0), 52);
        x.open(0);
        not(x, "a GAP", x.least(0), 8);
        x = of("stone a lenient 10;stone b lenient 20;");
        fine(x, "half is not enough", x.least(0), 22);
        fine(x, "half is not enough", x.least(1), 21);
    }

    private static void yearsUntilFree() {
        sentence(33, "In how many YEARS (0 to 9) one so GUILTY is FREE first at a PLACE, as only YEARS go by (8: in none)");
        ParapetCourt x = of("stone a lenient 10;");
        for (int years = 0; years <= 9; years++) {
            fine(x, "MERCY reaches it", x.freeIn(10 + years, 0), years);
        }
        fine(x, "0 already", x.freeIn(0, 0), 0);
        not(x, "in ten", x.freeIn(20, 0), 8);
        x.year(4);
        fine(x, "MOSS is 4 already", x.freeIn(19, 0), 5);
        not(x, "MOSS is 9 at most", x.freeIn(20, 0), 8);
        x.year(5);
        fine(x, "MOSS is 9 already", x.freeIn(19, 0), 0);
        not(x, "MOSS is 9 at most", x.freeIn(20, 0), 8);
        is("no YEAR went by", x.many(4), 9);
        fine(x, "at a GAP", of("gap;").freeIn(99, 0), 0);
    }

    // ---- FITS, ASK

    private static void fitsAtTheBounds() {
        sentence(34, "by which GUILT (0 to 60) all of this is so");
        ParapetCourt x = of("stone a lenient 30 moss 9;stone b lenient 0;crow c on b against;crow d on a for;crow e on a for;");
        put(x, 0, 0, 0, 1, 0, 0, 0, 1, 1, 1, 1, 1, 0);
        fine(x, "none told", x.fits(0, 0), 61);
        fine(x, "a turned: above 45", x.fits(0, 1), 15);
        fine(x, "and did not: none", x.fits(0, 2), 0);
        fine(x, "the greatest is 60", x.fitsBy(0, 1, 1), 60);
        fine(x, "the least is 46", x.fitsBy(0, 1, 0), 46);
        put(x, 0, 1, 1, 1);
        fine(x, "b turned: above -3", x.fits(0, 1), 61);
        fine(x, "the least is 0", x.fitsBy(0, 1, 0), 0);
        put(x, 0, 1, 1, 0);
        fine(x, "b did not: to -3", x.fits(0, 1), 0);
        x.carve(1, 3);
        fine(x, "b did not: to 0", x.fits(0, 1), 1);
        fine(x, "the greatest is 0", x.fitsBy(0, 1, 1), 0);
        put(x, 0, 0, 0, 0);
        fine(x, "a did not: to 45", x.fits(0, 1), 46);
        fine(x, "the greatest is 45", x.fitsBy(0, 1, 1), 45);
        sentence(34, "the first n (0 to 20) threes");
        x.tray(1, 0, 60);
        fine(x, "20", x.fits(1, 20), 46);
        not(x, "21 are more than a TRAY can have", x.fits(1, 21), 4);
        not(x, "-1", x.fits(1, -1), 5);
        x.tray(1, 0, 59);
        not(x, "20 of 59 numbers", x.fits(1, 20), 4);
        fine(x, "19 of 59 numbers", x.fits(1, 19), 46);
        put(x, 1, 0, 0, 0, 0, 0, 1, 9);
        fine(x, "the first alone", x.fits(1, 1), 46);
        fine(x, "both", x.fits(1, 2), 0);
        fine(x, "none of them", x.fits(1, 0), 61);
        put(x, 1, 0, 0, 0, 9, 9, 9);
        fine(x, "what is not asked for may be anything", x.fits(1, 1), 46);
        not(x, "what is asked for may not", x.fits(1, 2), 5);
    }

    private static void askAtTheBounds() {
        sentence(36, "8: fewer than two fit, no STONES");
        ParapetCourt x = of("stone a lenient 5;gap;");
        put(x, 0, 0, 0, 0, 1, 0, 1);
        fine(x, "six fit", x.fits(0, 1), 6);
        fine(x, "six fit: where", x.ask(0, 1, 0), 0);
        fine(x, "six fit: which", x.ask(0, 1, 1), 0);
        put(x, 0, 0, 0, 1, 1, 0, 0);
        fine(x, "one fits", x.fits(0, 2), 1);
        not(x, "fewer than two", x.ask(0, 2, 0), 8);
        x = of("stone a lenient 5;gap;gap;gap;");
        put(x, 0, 0, 0, 1, 2, 0, 0);
        fine(x, "two fit, 6 and 7", x.fits(0, 2), 2);
        fine(x, "they are parted: where", x.ask(0, 2, 0), 1);
        fine(x, "they are parted: which", x.ask(0, 2, 1), 0);
        x = of("stone z lenient 30;stone a lenient 8;stone c lenient 6;");
        put(x, 0, 2, 2, 1, 1, 1, 0);
        fine(x, "7 and 8 fit", x.fits(0, 2), 2);
        fine(x, "z, a turn from none of them, c parts them: where", x.ask(0, 2, 0), 0);
        fine(x, "z, a turn from none of them, c parts them: which", x.ask(0, 2, 1), 2);
        x.open(2);
        put(x, 0, 0, 1, 0, 1, 1, 0);
        fine(x, "0 to 8 fit", x.fits(0, 2), 9);
        fine(x, "none parts them: the first PLACE", x.ask(0, 2, 0), 0);
        fine(x, "none parts them: the first STONE", x.ask(0, 2, 1), 0);
        x = of("stone a lenient 5;gap;gap;gap;");
        put(x, 0, 0, 0, 1, 0, 0, 0);
        fine(x, "none fit", x.fits(0, 2), 0);
        not(x, "none fit", x.ask(0, 2, 1), 8);
        sentence(36, "the greater number the least; of several the first by the PLACE where he stands, then the other");
        // Of 0 to 60 those above MERCY: 30 turn by MERCY 30, 31 by 29; 31 is the greater number both times.
        x = of("stone a lenient 29;stone b lenient 30;");
        x.tray(0, 0, 0);
        fine(x, "from PLACE 0", x.ask(0, 0, 0), 0);
        fine(x, "STONE 0 by 29", x.ask(0, 0, 1), 0);
        x = of("stone a lenient 28;stone b lenient 29;");
        x.tray(0, 0, 0);
        fine(x, "from PLACE 0", x.ask(0, 0, 0), 0);
        fine(x, "STONE 1 by 30", x.ask(0, 0, 1), 1);
        x = of("stone a lenient 28;stone b lenient 28;");
        x.tray(0, 0, 0);
        fine(x, "from PLACE 0", x.ask(0, 0, 0), 0);
        fine(x, "STONE 1 by 29", x.ask(0, 0, 1), 1);
        x = of("stone a lenient 28;gap;gap;stone b lenient 0;");
        x.tray(0, 0, 0);
        fine(x, "from a GAP", x.ask(0, 0, 0), 1);
        fine(x, "STONE 0 by 29", x.ask(0, 0, 1), 0);
        x.open(0);
        x.open(3);
        not(x, "no STONES", x.ask(0, 0, 0), 8);
        fine(x, "all fit", x.fits(0, 0), 61);
    }

    // ---- CUT, WINDOWS

    private static String way(ParapetCourt x, int tray, int n) {
        StringBuilder way = new StringBuilder();
        for (int p = 0; p < x.many(0); p++) {
            way.append(x.cutOf(tray, n, p));
        }
        return way.toString();
    }

    private static void cutAtTheBounds() {
        sentence(37, "the first n (0 to 6) threes");
        ParapetCourt x = of("stone a lenient 0;stone b lenient 0;stone c lenient 30;gap;");
        x.tray(0, 0, 21);
        fine(x, "6", x.cuts(0, 6), 0);
        not(x, "7", x.cuts(0, 7), 5);
        not(x, "-1", x.cuts(0, -1), 5);
        fine(x, "0", x.cuts(0, 0), 0);
        x.tray(0, 0, 18);
        fine(x, "6 of 18 numbers", x.cuts(0, 6), 0);
        not(x, "7 of 18 numbers", x.cuts(0, 7), 4);
        x.tray(0, 0, 17);
        not(x, "6 of 17 numbers", x.cuts(0, 6), 4);
        sentence(37, "GUILT, a PLACE, and 1 for CONDEMNED, 0 for FREE");
        put(x, 0, 99, 0, 1, 0, 2, 0);
        fine(x, "99 and 0 are as they are", x.cuts(0, 2), 0);
        put(x, 0, 100, 0, 1);
        not(x, "100", x.cuts(0, 1), 5);
        put(x, 0, -1, 0, 0);
        not(x, "-1", x.cuts(0, 1), 5);
        put(x, 0, 9, 3, 0);
        fine(x, "the last PLACE, a GAP", x.cuts(0, 1), 0);
        put(x, 0, 9, 4, 0);
        not(x, "behind the last PLACE", x.cuts(0, 1), 5);
        put(x, 0, 9, 3, 1);
        not(x, "CONDEMNED at a GAP: by none", x.cuts(0, 1), 8);
        put(x, 0, 0, 0, 0, 9, 9, 9);
        fine(x, "what is not asked for may be anything", x.cuts(0, 1), 0);
        not(x, "what is asked for may not", x.cuts(0, 2), 5);
    }

    private static void cutsInOrder() {
        sentence(38, "of several ways the first by PLACES, a STONE as it is ahead of KIND, that ahead of HARSH");
        ParapetCourt x = of("stone a lenient 0;stone b lenient 0;stone c lenient 30;gap;");
        put(x, 0, 9, 0, 0);
        fine(x, "one less that turns", x.cuts(0, 1), 1);
        is("the later one is KIND", way(x, 0, 1), "0100");
        put(x, 0, 0, 0, 1);
        fine(x, "two must turn from 0", x.cuts(0, 1), 2);
        is("the first stays as it is", way(x, 0, 1), "0220");
        put(x, 0, 9, 0, 1, 9, 1, 1);
        fine(x, "as they are", x.cuts(0, 2), 0);
        is("none is cut", way(x, 0, 2), "0000");
        // From 31 at 0, 1: a, b turn; from 32 at 0 c does, too (30 and 1).
        put(x, 0, 0, 1, 1, 0, 0, 1);
        is("both by the same cuts", way(x, 0, 2), "0220");
        ParapetCourt y = of("stone a lenient 30;stone b lenient 0;");
        put(y, 0, 9, 0, 1);
        fine(y, "all must turn", y.cuts(0, 1), 1);
        is("HARSH", way(y, 0, 1), "20");
        put(y, 0, 99, 1, 0);
        fine(y, "half is FREE", y.cuts(0, 1), 1);
        is("the later one is KIND", way(y, 0, 1), "01");
        // 9 at 0 must be CONDEMNED, 99 at 1 FREE: whoever turns from the first turns from the second, too.
        put(y, 0, 9, 0, 1, 99, 1, 0);
        not(y, "by none", y.cuts(0, 2), 8);
        not(y, "by none", y.cutOf(0, 2, 0), 8);
        // From 5 at 2: b, c, d turn; from 4 at 0: a, b do. One cut is enough for each, none for both.
        y = of("stone a lenient 3;stone b lenient 2;stone c lenient 3;stone d lenient 3;");
        put(y, 0, 5, 2, 0, 4, 0, 1);
        put(y, 1, 4, 0, 1);
        fine(y, "the first for itself", y.cuts(0, 1), 1);
        fine(y, "the second for itself", y.cuts(1, 1), 1);
        fine(y, "both", y.cuts(0, 2), 2);
        is("one KIND, one HARSH", way(y, 0, 2), "0012");
        y = of("stone a lenient 9;");
        put(y, 0, 9, 0, 0, 10, 0, 1, 9, 0, 1);
        fine(y, "as much as MERCY, one more: as it is", y.cuts(0, 2), 0);
        not(y, "not both of the same", y.cuts(0, 3), 8);
        ParapetCourt z = of(stones(10, "lenient 30"));
        put(z, 0, 0, 0, 1);
        fine(z, "six of ten", z.cuts(0, 1), 6);
        is("the last ones", way(z, 0, 1), "0000222222");
        put(z, 0, 99, 0, 0);
        fine(z, "five of ten", z.cuts(0, 1), 5);
        is("the last ones", way(z, 0, 1), "0000011111");
    }

    private static void windowsAtTheBounds() {
        sentence(39, "the fewest other STONES to be carried off so that the VERDICT is another (8: by none)");
        ParapetCourt x = of("stone a lenient 30;stone b lenient 0;stone c lenient 0;stone d lenient 30;");
        fine(x, "two of four turn: one that does not is carried off", x.windows(9, 1), 1);
        fine(x, "the least set", x.windowSet(9, 1), 1);
        fine(x, "his own STONE is none", x.windowSet(9, 0), 8);
        not(x, "all turn: his own stays", x.windows(99, 0), 8);
        x.open(3);
        fine(x, "two of three turn: one that does is carried off", x.windowSet(9, 0), 2);
        fine(x, "his own STONE is none", x.windowSet(9, 1), 4);
        x = of("stone a lenient 9;stone b lenient 30;");
        not(x, "as much as MERCY: nobody turns", x.windowSet(9, 0), 8);
        fine(x, "one more: a turns", x.windowSet(10, 0), 2);
        x = of("stone a lenient 0;stone b lenient 30;");
        fine(x, "one of two", x.windowSet(9, 0), 2);
        not(x, "where the other can't go", x.windowSet(9, 1), 8);
        not(x, "nobody turns", x.windows(0, 0), 8);
        x = of("stone a lenient 5;");
        not(x, "no others: FREE", x.windows(5, 0), 8);
        not(x, "no others: CONDEMNED", x.windows(6, 0), 8);
        x = of("stone a lenient 30;" + stones(10, "lenient 0").substring(18));
        fine(x, "nine of ten turn: eight go", x.windows(9, 0), 8);
        fine(x, "the lowest", x.windowSet(9, 0), 0x1FE);
        fine(x, "eight others of those that turn", x.windows(9, 9), 8);
        fine(x, "the lowest", x.windowSet(9, 9), 0x1FE);
        fine(x, "the lowest but his own", x.windowSet(9, 1), 0x3FC);
        sentence(39, "9: he stands at a GAP, not 8");
        x.open(0);
        not(x, "a GAP", x.windows(9, 0), 9);
        not(x, "a GAP", x.windowSet(0, 0), 9);
    }

    // ---- WALK

    private static void walksRound() {
        sentence(41, "one way (to higher numbers, 0 behind the last), or the other: the fewest; of both as long to higher numbers");
        for (int places = 1; places <= 10; places++) {
            ParapetCourt x = of(stones(places, "lenient 1"));
            for (int to = 0; to < places; to++) {
                int from = places - 1;
                int up = (to - from + places) % places;
                int down = (from - to + places) % places;
                int steps = Math.min(up, down);
                fine(x, from + " to " + to, x.walk(from, to), steps);
                fine(x, "where it begins", x.walkAt(from, to, 0), from);
                fine(x, "where it ends", x.walkAt(from, to, steps), to);
                not(x, "one step more", x.walkAt(from, to, steps + 1), 8);
                not(x, "one step less than none", x.walkAt(from, to, -1), 8);
                if (steps > 0) {
                    fine(x, "the first step", x.walkAt(from, to, 1), up <= down ? 0 : from - 1);
                }
            }
        }
        sentence(41, "by STONES alone (both ends, too) (8: by no way)");
        ParapetCourt x = of(stones(6, "lenient 1"));
        x.open(2);
        fine(x, "the long way", x.walk(1, 3), 4);
        fine(x, "over the beginning", x.walkAt(1, 3, 2), 5);
        fine(x, "the long way back", x.walk(3, 1), 4);
        fine(x, "over the end", x.walkAt(3, 1, 3), 0);
        fine(x, "both as long but one is shut", x.walkAt(0, 3, 1), 5);
        fine(x, "both as long but one is shut", x.walkAt(3, 0, 1), 4);
        not(x, "to a GAP", x.walk(1, 2), 8);
        not(x, "from a GAP", x.walk(2, 1), 8);
        not(x, "from a GAP to itself", x.walk(2, 2), 8);
        x.open(5);
        not(x, "both are shut", x.walk(0, 3), 8);
        not(x, "both are shut", x.walkAt(0, 3, 0), 8);
        fine(x, "beside", x.walk(0, 1), 1);
    }

    private static void longestRound() {
        sentence(43, "How many STONES are in the longest row without a GAP (all, if there is none)");
        ParapetCourt x = of(stones(10, "lenient 1"));
        fine(x, "all", x.longest(), 10);
        x.open(0);
        fine(x, "all but the first", x.longest(), 9);
        x.mend(0, 1, 1);
        x.open(9);
        fine(x, "all but the last", x.longest(), 9);
        x.mend(9, 1, 1);
        x.open(4);
        fine(x, "over the beginning", x.longest(), 9);
        x.open(6);
        fine(x, "over the beginning", x.longest(), 7);
        x.open(0);
        fine(x, "two rows of three", x.longest(), 3);
        for (int p : new int[] {1, 2, 3, 5, 7, 8}) {
            x.open(p);
        }
        fine(x, "one", x.longest(), 1);
        x.open(9);
        fine(x, "none", x.longest(), 0);
        fine(x, "one of one", of("stone a lenient 1;").longest(), 1);
        fine(x, "two of two", of(stones(2, "lenient 1")).longest(), 2);
    }

    // ---- GAME, LOT, COUPLES

    private static void gameTurns() {
        sentence(44, "n turns (0 to 4)");
        ParapetCourt x = of("stone a lenient 8;stone b lenient 8;gap;");
        bound(x, "game", 0, 4, turns -> x.game(9, 0, turns));
        sentence(45, "5: turns 0, too");
        bound(x, "moveOf", 1, 4, turns -> x.moveOf(9, 0, turns));
        sentence(44, "how many STONES TURN then, by best play");
        // MERCY is 8 and 9: from 9 a turns by 1, b does not by 0.
        fine(x, "as they are", x.game(9, 0, 0), 1);
        fine(x, "AGAINST on b", x.game(9, 0, 1), 2);
        fine(x, "FOR on a", x.game(9, 0, 2), 1);
        fine(x, "no STONE is left", x.game(9, 0, 3), 1);
        fine(x, "no STONE is left", x.game(9, 0, 4), 1);
        sentence(44, "a CROW is worth 3");
        ParapetCourt y = of("stone a lenient 12;");
        fine(y, "less by 3 is enough", y.game(10, 0, 1), 1);
        fine(y, "less by 3 is not enough", y.game(9, 0, 1), 0);
        fine(y, "FOR is too late", y.game(10, 0, 2), 1);
        fine(y, "he has another CROW", y.game(10, 0, 4), 1);
        y = of("stone a lenient 10;stone b lenient 30;");
        fine(y, "it turns by 3: AGAINST keeps FOR from it", y.game(13, 0, 2), 1);
        fine(y, "it turns by 3: that is the move", y.moveOf(13, 0, 2), 0);
        fine(y, "it turns by 4: FOR can't help", y.game(14, 0, 2), 1);
        playsOut();
        sentence(44, "at a GAP, with CROWS of the WALL on all STONES");
        ParapetCourt z = of("gap;stone a lenient 5;crow b on a for;crow c on a for;crow d on a for;crow e on a for;");
        fine(z, "MERCY is 18", z.game(16, 0, 0), 0);
        fine(z, "15 by one more", z.game(16, 0, 1), 1);
        fine(z, "not by 15", z.game(15, 0, 1), 0);
        is("no CROW was set", z.many(2) * 100 + z.stone(1, 3), 415);
        sentence(45, "of all that are as good the first; nothing comes last (8: nothing)");
        fine(z, "the only STONE", z.moveOf(0, 0, 1), 1);
        z.open(1);
        not(z, "no STONES", z.moveOf(0, 0, 1), 8);
        z = of("stone a lenient 30;stone b lenient 11;stone c lenient 11;");
        fine(z, "the first by which it is best", z.moveOf(10, 0, 1), 1);
        fine(z, "none helps: the first", z.moveOf(0, 0, 4), 0);
    }

    private static void plays(ParapetCourt x, int guilt, int place, int... due) {
        for (int turns = 0; turns <= 4; turns++) {
            fine(x, guilt + " at " + place + ", " + turns + " turns", x.game(guilt, place, turns), due[turns]);
        }
    }

    /** Of the STONES that a CROW can make turn, or keep from it, each counsel takes one by turns. */
    private static void playsOut() {
        sentence(44, "a STONE on which none was set in the game, or does nothing");
        // MERCY of all four is 12 for PLACE 1.
        ParapetCourt x = of("stone a lenient 11;stone b lenient 12;stone c lenient 11;stone d lenient 10;");
        plays(x, 9, 1, 0, 0, 0, 0, 0);
        plays(x, 10, 1, 0, 1, 1, 2, 2);
        plays(x, 12, 1, 0, 1, 1, 2, 2);
        plays(x, 13, 1, 4, 4, 3, 3, 2);
        plays(x, 15, 1, 4, 4, 3, 3, 2);
        plays(x, 16, 1, 4, 4, 4, 4, 4);
        x.open(3);
        plays(x, 12, 1, 0, 1, 1, 2, 2);
        plays(x, 13, 1, 3, 3, 2, 2, 2);
        x.open(2);
        plays(x, 12, 1, 0, 1, 1, 1, 1);
        plays(x, 13, 1, 2, 2, 1, 1, 1);
        // Two that turn by 1, two that do not by 0.
        x = of("stone a lenient 11;stone b lenient 12;stone c lenient 10;stone d lenient 9;");
        plays(x, 12, 1, 2, 3, 2, 3, 2);
        sentence(45, "the first's first PLACE, of all that are as good the first");
        fine(x, "one turn: one that it makes turn", x.moveOf(12, 1, 1), 0);
        fine(x, "three turns: as good as any", x.moveOf(12, 1, 3), 0);
        x = of("stone a lenient 10;stone b lenient 11;stone c lenient 10;stone d lenient 10;");
        // From 12 at 1: a, c turn by 1, b, d do not by -1 and 0: a is not as good as b in one turn.
        fine(x, "one turn", x.moveOf(12, 1, 1), 3);
        x = of("stone a lenient 30;stone b lenient 30;stone c lenient 30;stone d lenient 12;");
        fine(x, "one turn: the last alone", x.moveOf(12, 3, 1), 3);
        fine(x, "two turns: FOR can't undo it", x.moveOf(12, 3, 2), 3);
        fine(x, "none can be made turn: the first", x.moveOf(9, 3, 2), 0);
    }

    private static void lots() {
        sentence(46, "each as likely: the odds that he is CONDEMNED, how many TURN on the mean");
        ParapetCourt x = of("stone a lenient 5;gap;gap;stone b lenient 5;gap;");
        fraction(x, "nowhere", x.lot(5, 0), 0, 1);
        fraction(x, "none turn", x.lot(5, 1), 0, 1);
        fraction(x, "one turns", x.lot(6, 1), 1, 1);
        fraction(x, "half is FREE", x.lot(6, 0), 0, 1);
        fraction(x, "everywhere", x.lot(8, 0), 1, 1);
        fraction(x, "all turn", x.lot(8, 1), 2, 1);
        x.carve(3, 6);
        // From 0: 5 and 8; from 3: 7 and 6.
        fraction(x, "one of two", x.lot(8, 0), 1, 2);
        fraction(x, "one and two", x.lot(8, 1), 3, 2);
        sentence(3, "FRACTIONS .. without a common divisor, the bottom above 0; 0 is 0 by 1");
        ParapetCourt y = of(stones(10, "lenient 5"));
        fraction(y, "ten by ten", y.lot(99, 0), 1, 1);
        fraction(y, "a hundred by ten", y.lot(99, 1), 10, 1);
        fraction(y, "0 by ten", y.lot(0, 1), 0, 1);
        fraction(y, "ten by ten", y.lot(6, 1), 1, 1);
    }

    private static void couplesAtTheBounds() {
        sentence(47, "k 0 to 10; the odds that k or more are");
        ParapetCourt x = of(stones(10, "lenient 5"));
        bound(x, "couples", 0, 10, x::couples);
        fraction(x, "k 0", x.couples(0), 1, 1);
        fraction(x, "k 1", x.couples(1), 1023, 1024);
        fraction(x, "k 9", x.couples(9), 11, 1024);
        fraction(x, "k 10", x.couples(10), 1, 1024);
        x.open(0);
        fraction(x, "k 9 of nine", x.couples(9), 1, 512);
        fraction(x, "k 10 of nine", x.couples(10), 0, 1);
        x.rule(0);
        fraction(x, "ODDS 0, k 0", x.couples(0), 1, 1);
        fraction(x, "ODDS 0, k 1", x.couples(1), 0, 1);
        x.rule(16);
        fraction(x, "ODDS 16, k 9", x.couples(9), 1, 1);
        fraction(x, "ODDS 16, k 10", x.couples(10), 0, 1);
        x.mend(0, 1, 1);
        fraction(x, "ODDS 16, k 10 of ten", x.couples(10), 1, 1);
        x.rule(15);
        fraction(x, "ODDS 15, k 1 of ten", x.couples(1), (1L << 40) - 1, 1L << 40);
        x.rule(1);
        fraction(x, "ODDS 1, k 1 of ten", x.couples(1), (1L << 40) - 576650390625L, 1L << 40);
    }

    // ---- TERMS

    private static int drawn = 0;

    private static int draw(int by) {
        drawn = (int) (((long) drawn * 2971 + 10903) % 65536);
        return drawn / 8 % by;
    }

    private static void draws() {
        sentence(48, "s becomes what is left of s times 2,971 and 10,903 by 65,536; the draw by n is the rest of s by 8, rounded down, by n");
        for (int seed : new int[] {0, 1, 2, 7, 8, 4999, 9992, 9998, 9999}) {
            for (int odds : new int[] {0, 1, 8, 15, 16}) {
                String text = "odds " + odds + ";stone a lenient 9 strong 9;stone b lenient 19 strong 9;gap;stone c lenient 29 strong 9;";
                ParapetCourt x = of(text, times("any;", 6));
                ParapetCourt y = of(text);
                drawn = seed;
                for (int i = 0; i < 6; i++) {
                    boolean did = draw(16) < odds;
                    int guilt = draw(40);
                    y.judge(guilt, draw(4), did);
                }
                fine(x, "six STEPS", x.live(seed), 6);
                for (int what = 5; what < 8; what++) {
                    is("seed " + seed + ", odds " + odds + ": many(" + what + ")", x.many(what), y.many(what));
                }
                for (int p : new int[] {0, 1, 3}) {
                    is("seed " + seed + ", odds " + odds + ": STRENGTH of " + p, x.stone(p, 2), y.stone(p, 2));
                }
                is("those wrong are MISSED", x.lived(0), y.many(7));
            }
        }
        sentence(48, "any without PLACES (no draws)");
        ParapetCourt x = of("", "any;any;");
        fine(x, "done", x.live(0), 2);
        is("MISSED", x.lived(0) * 10 + x.many(5), 20);
    }

    private static ParapetCourt lived(String terms) {
        ParapetCourt x = of(RING, terms);
        x.live(0);
        return x;
    }

    private static void stepsLived() {
        sentence(48, "At most 300 STEPS (when, loop count as one each time they are come to from ahead; end does not)");
        String loop99 = "loop 99;clear ash;clear ash;clear ash;end;";
        int[][] due = {{0, 298, 0}, {1, 299, 0}, {2, 300, 0}, {3, 300, 1}, {4, 300, 1}};
        for (int[] d : due) {
            ParapetCourt x = of(RING, loop99 + times("year 1;", d[0]));
            fine(x, d[0] + " behind 298", x.live(0), d[1]);
            fine(x, d[0] + " behind 298: left to be done", x.lived(4), d[2]);
            fine(x, d[0] + " behind 298: YEARS", x.lived(1), Math.min(2, d[0]));
            fine(x, d[0] + " behind 298: MISSED", x.lived(0), 297);
        }
        sentence(49, "1 if a STEP was left to be done, else 0");
        is("a when behind 300", lived(loop99 + "year 1;year 1;when stands cob;end;").lived(4), 1);
        is("a loop behind 300", lived(loop99 + "year 1;year 1;loop 1;end;").lived(4), 1);
        is("a stop behind 300", lived(loop99 + "year 1;year 1;stop;").lived(4), 1);
        is("a stop as the 300th", lived(loop99 + "year 1;stop;year 1;").lived(4), 0);
        is("an end behind 300", lived(loop99 + "loop 1;year 1;end;").lived(4), 0);
        is("an end behind 300 that goes round", lived(loop99 + "loop 2;year 1;end;").lived(4), 1);
        is("a loop without STEPS as the 300th", lived(loop99 + "year 1;loop 99;end;").lived(4), 0);
        is("a when that does not hold as the 300th", lived(loop99 + "year 1;when moss ash = 9;year 1;end;").lived(4), 0);
        is("a when that holds as the 300th", lived(loop99 + "year 1;when moss ash = 1;year 1;end;").lived(4), 1);
        is("no STEPS", lived("").lived(4), 0);
        ParapetCourt x = of(RING, "loop 99;loop 99;loop 99;end;end;end;");
        fine(x, "blocks of no other STEPS", x.live(0), 300);
        is("left", x.lived(4), 1);
        x = of(RING, "loop 99;loop 99;loop 99;year 20;end;end;end;");
        fine(x, "1 and 1 and 1 and 99, 1 and 99, 1 and 97", x.live(0), 300);
        is("YEARS by the bound of STEPS", x.lived(1), 20 * 295);
    }

    private static void missed(String terms, int due) {
        ParapetCourt x = of(RING, terms);
        x.live(0);
        fine(x, terms, x.lived(0), due);
    }

    private static void whatIsMissed() {
        sentence(49, "MISSED: YEARS beyond 9,999 (as a whole)");
        ParapetCourt x = of("stone a lenient 5;", "year 20;year 19;year 2;year 1;year 1;");
        for (int i = 0; i < 100; i++) {
            x.year(99);
        }
        x.year(60);
        x.clear(0);
        fine(x, "all are done", x.live(0), 5);
        is("YEARS", x.lived(1), 39);
        is("MISSED", x.lived(0), 3);
        is("the last YEAR", x.many(4), 9999);
        x = of("stone a lenient 5;", "year 20;");
        for (int i = 0; i < 100; i++) {
            x.year(99);
        }
        x.year(80);
        x.clear(0);
        x.live(0);
        is("beyond by one: no YEAR, no MOSS", x.lived(0) * 100 + x.lived(1) * 10 + x.many(9), 100);
        sentence(49, "MISSED: what is done to a STONE that is a GAP");
        for (String step : new String[] {"kind cob;", "harsh cob;", "clear cob;", "fly jay cob;"}) {
            missed(step, "clear cob;".equals(step) ? 1 : 0);
            // cob alone crumbles by this.
            missed("try 99 0 0;" + step, 2);
        }
        sentence(49, "MISSED: a clear without MOSS, a fly to where it is");
        missed("clear ash;", 1);
        missed("clear bay;", 0);
        missed("clear bay;clear bay;", 1);
        missed("year 1;clear ash;", 0);
        missed("fly rook ash;", 1);
        missed("fly rook bay;", 0);
        missed("fly rook bay;fly rook ash;fly rook ash;", 1);
        sentence(49, "MISSED: a try, any of which the VERDICT is wrong (it is done)");
        missed("try 99 0 1;", 0);
        missed("try 99 0 0;", 1);
        missed("try 0 0 0;", 0);
        missed("try 0 0 1;", 1);
        missed("try 99 3 0;", 0);
        missed("try 99 3 1;", 1);
        x = lived("try 99 0 0;");
        is("it is done: TRIALS, CONDEMNED, wrong", x.many(5) * 100 + x.many(6) * 10 + x.many(7), 111);
        is("by lived(), too", x.lived(2) * 10 + x.lived(3), 11);
        sentence(48, "kind, harsh: LENIENT is 30, 0 from now on, MOSS 0");
        x = lived("year 5;kind bay;harsh dun;");
        is("kind", x.stone(1, 0) * 10 + x.stone(1, 1), 300);
        is("harsh", x.stone(4, 0) * 10 + x.stone(4, 1), 0);
        is("another", x.stone(0, 0) * 10 + x.stone(0, 1), 55);
        missed("kind ash;kind ash;harsh ash;harsh ash;", 0);
    }

    private static void loopsAndWhens() {
        sentence(48, "loop n (1 to 99): as often");
        ParapetCourt x = of(RING, "loop 1;year 1;end;");
        fine(x, "1", x.live(0), 2);
        x = of(RING, "loop 99;year 1;end;");
        fine(x, "99", x.live(0), 100);
        is("YEARS", x.lived(1), 99);
        fine(x, "as often again", x.live(0), 100);
        is("YEARS", x.many(4), 198);
        x = of(RING, "loop 2;loop 3;year 1;end;loop 2;year 2;end;end;");
        fine(x, "blocks in blocks", x.live(0), 1 + 2 * (4 + 3));
        is("YEARS", x.lived(1), 14);
        sentence(48, "moss: COMPARES: < or > or =");
        // bay has MOSS 2.
        int[][] due = {{'<', 2, 1}, {'<', 3, 2}, {'>', 2, 1}, {'>', 1, 2}, {'=', 1, 1}, {'=', 2, 2}, {'=', 3, 1}, {'<', 0, 1}, {'>', 9, 1}};
        for (int[] d : due) {
            String text = "when moss bay " + (char) d[0] + " " + d[1] + ";year 1;end;";
            ParapetCourt y = of(RING, text);
            fine(y, text, y.live(0), d[2]);
        }
        sentence(48, "turns: a STONE, a PLACE, GUILT: more than MERCY");
        // MERCY of cob is 3 at its own PLACE, 5 at PLACE 0.
        is("as much", lived("when turns cob 2 3;year 1;end;").lived(1), 0);
        is("one more", lived("when turns cob 2 4;year 1;end;").lived(1), 1);
        is("as much, further off", lived("when turns cob 0 5;year 1;end;").lived(1), 0);
        is("one more, further off", lived("when turns cob 0 6;year 1;end;").lived(1), 1);
        is("he stands at a GAP", lived("when turns cob 3 5;year 1;end;").lived(1), 1);
        is("a GAP turns from none", lived("try 99 0 0;when turns cob 2 99;year 1;end;").lived(1), 0);
        sentence(48, "stands: it is no GAP");
        is("a STONE", lived("when stands cob;year 1;end;").lived(1), 1);
        is("a GAP", lived("try 99 0 0;when stands cob;year 1;end;").lived(1), 0);
        sentence(48, "stop");
        x = of(RING, "loop 9;when stands ash;year 1;stop;end;end;year 5;");
        fine(x, "in blocks", x.live(0), 4);
        is("YEARS", x.lived(1), 1);
    }

    private static void seeds() {
        ParapetCourt x = of("odds 8;stone a lenient 9 strong 1;stone b lenient 19 strong 1;gap;", "any;any;");
        sentence(50, "by so many seeds (1 to 20) from one on (5: the last above 9,999, too)");
        bound(x, "many", 1, 20, many -> x.mean(0, many));
        bound(x, "the seed", 0, 9999, seed -> x.mean(seed, 1));
        take(x, "20 from", seed -> x.mean(seed, 20), 0, 9980);
        refuse(x, "20 from", 5, seed -> x.mean(seed, 20), -1, 9981, 9999, 10000);
        take(x, "2 from", seed -> x.mean(seed, 2), 0, 9998);
        refuse(x, "2 from", 5, seed -> x.mean(seed, 2), -1, 9999);
        is("all stays as it is", x.many(1) * 10 + x.many(5), 20);
        not(x, "lived() is of live() alone", x.lived(0), 8);
        for (int from : new int[] {0, 9980}) {
            int sum = 0;
            for (int seed = from; seed < from + 20; seed++) {
                x.mark();
                x.live(seed);
                sum += x.many(1);
                x.back();
            }
            fine(x, "the mean", x.mean(from, 20));
            is("as by live()", x.top() * 20, sum * x.bottom());
        }
        ParapetCourt all = of("stone a lenient 5;stone b lenient 5;stone c lenient 5;", "year 1;");
        fraction(all, "each seed counts", all.mean(0, 1), 3, 1);
        fraction(all, "each seed counts", all.mean(0, 20), 3, 1);
        sentence(48, "a seed (0 to 9,999)");
        bound(x, "live", 0, 9999, x::live);
        sentence(49, "Of live() latest with STATUS 0");
        ParapetCourt y = of(RING, "year 7;");
        not(y, "there was none", y.lived(1), 8);
        y.live(10000);
        not(y, "a refused one is none", y.lived(1), 8);
        y.live(0);
        fine(y, "7", y.lived(1), 7);
        terms(y, "year 8;");
        fine(y, "TERMS anew are not lived", y.lived(1), 7);
        y.live(-1);
        fine(y, "a refused one changes nothing", y.lived(1), 7);
        y.mean(0, 1);
        fine(y, "mean() changes nothing", y.lived(1), 7);
        y.live(0);
        fine(y, "the latest", y.lived(1), 8);
        y = of("stone a lenient 5 strong 9;stone b lenient 5 strong 9;",
            "try 99 0 0;loop 99;clear a;clear a;clear a;end;try 99 0 0;stop;");
        for (int i = 0; i < 2; i++) {
            fine(y, "all are done", y.live(0), 300);
            is("of the latest alone: MISSED", y.lived(0), 299);
            is("of the latest alone: CONDEMNED, wrong", y.lived(2) * 10 + y.lived(3), 22);
            is("left", y.lived(4), 1);
        }
        terms(y, "year 1;");
        y.live(0);
        is("of the latest alone", y.lived(0) * 1000 + y.lived(2) * 100 + y.lived(3) * 10 + y.lived(4), 0);
        is("of all", y.many(6) * 10 + y.many(7), 44);
    }

    // ---- MARKS

    private static void marks() {
        sentence(51, "MARKS, at most 3 (7)");
        ParapetCourt x = of("stone a lenient 5;");
        not(x, "none to be taken back to", x.back(), 8);
        fine(x, "1", x.mark(), 1);
        x.carve(0, 6);
        fine(x, "2", x.mark(), 2);
        x.carve(0, 7);
        fine(x, "3", x.mark(), 3);
        x.carve(0, 8);
        not(x, "a fourth", x.mark(), 7);
        sentence(52, "all is taken back to the latest MARK, which is gone then (8)");
        is("a MARK that was refused keeps nothing", x.stone(0, 0), 8);
        fine(x, "2 left", x.back(), 2);
        is("LENIENT", x.stone(0, 0), 7);
        x.carve(0, 9);
        fine(x, "the third anew", x.mark(), 3);
        x.carve(0, 10);
        not(x, "a fourth", x.mark(), 7);
        fine(x, "2 left", x.back(), 2);
        is("LENIENT", x.stone(0, 0), 9);
        fine(x, "1 left", x.back(), 1);
        is("LENIENT", x.stone(0, 0), 6);
        fine(x, "none left", x.back(), 0);
        is("LENIENT", x.stone(0, 0), 5);
        not(x, "none", x.back(), 8);
        is("LENIENT stays", x.stone(0, 0), 5);
        sentence(52, "the WALL with all that became of it, the TERMS");
        x = of(RING, "year 2;");
        x.judge(99, 0, false);
        x.year(3);
        x.hatch(1, true);
        x.mark();
        x.judge(99, 0, true);
        x.year(4);
        x.hatch(1, false);
        x.open(1);
        x.mend(2, 1, 1);
        x.rule(0);
        wall(x, stones(10, "lenient 1") + CROWS);
        terms(x, "any;any;any;");
        x.back();
        is("PLACES, STONES, CROWS, ODDS", x.many(0) * 1000 + x.many(8) * 10 + x.many(2), 5193);
        is("ODDS", x.many(3), 4);
        is("YEAR, TRIALS, CONDEMNED, wrong", x.many(4) * 1000 + x.many(5) * 100 + x.many(6) * 10 + x.many(7), 3111);
        is("CROWS on bay", x.stone(1, 3), 4);
        is("STRENGTH", x.stone(0, 2) * 10 + x.stone(1, 2), 22);
        fine(x, "the TERMS", x.live(0), 1);
        is("YEARS", x.lived(1), 2);
        fine(x, "the NAMES", terms(x, "kind cob;fly rook dun;"), 2);
        sentence(52, "MARKS of no TERMS");
        x = of(RING);
        x.mark();
        terms(x, "year 1;");
        x.back();
        not(x, "none again", x.live(0), 8);
    }
}
