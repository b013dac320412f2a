import java.util.function.Supplier;

/**
 * Each STATUS of each call, which of several comes first, and that a call that is refused changes nothing but STATUS
 * ("==== 5." of the document). Each row makes two objects alike, asks the first what is refused, and compares all that
 * can be seen of both.
 */
public final class RefusedTests extends Checks {
    private static final int MIN = Integer.MIN_VALUE;
    private static final int MAX = Integer.MAX_VALUE;

    private static int rows = 0;

    private interface Ask {
        long of(ParapetCourt x);
    }

    public static void main(String[] args) {
        traysRefuse();
        pourRefuses();
        textsRefuse();
        askingRefuses();
        doingRefuses();
        crowsRefuse();
        turningRefuses();
        fitsRefuse();
        cutsRefuse();
        windowsRefuse();
        walksRefuse();
        gamesRefuse();
        termsRefuse();
        marksRefuse();
        faultyTextsChangeTheTapeAlone();
        callsWithoutStatus();
        end("all " + rows + " refused calls changed nothing but STATUS");
    }

    // ---- how a row is checked

    private static void refuse(int ofPromise, int status, String why, Supplier<ParapetCourt> state, Ask call) {
        refuse(ofPromise, status, why, state, call, true);
    }

    private static void refuse(int ofPromise, int status, String why, Supplier<ParapetCourt> state, Ask call, boolean tapeToo) {
        sentence(ofPromise, why);
        rows++;
        ParapetCourt x = state.get();
        ParapetCourt y = state.get();
        is("the answer", call.of(x), -1);
        is("STATUS", x.status(), status);
        is("what is left", look(x, tapeToo), look(y, tapeToo));
    }

    /** A boolean's false as the NONE of the other calls. */
    private static long said(boolean answer) {
        return answer ? 1 : -1;
    }

    /** All that can be seen of an object, at the end by doing things to it. */
    private static String look(ParapetCourt x, boolean tapeToo) {
        StringBuilder all = new StringBuilder();
        all.append("fraction ").append(x.top()).append('/').append(x.bottom());
        if (tapeToo) {
            all.append(" fault ").append(x.fault(0)).append(' ').append(x.fault(1));
        }
        lookAtLife(x, all);
        lookAtWall(x, all);
        lookAtTrays(x, all);
        if (tapeToo) {
            all.append(" tape ").append(x.feed(0x20202020, 0x20202020, 0x20202020, 0x20202020, 0x20202020));
        }
        for (int i = 0; i < 4; i++) {
            all.append(" live ").append(x.live(5)).append(' ').append(x.many(1)).append(' ').append(x.many(9));
            all.append(" back ").append(x.back()).append(' ').append(x.many(4)).append(' ').append(x.many(8));
        }
        if (tapeToo) {
            all.append(" wall ").append(x.wall(20)).append(' ').append(x.many(0));
        }
        return all.toString();
    }

    private static void lookAtLife(ParapetCourt x, StringBuilder all) {
        all.append(" lived");
        for (int what = 0; what < 5; what++) {
            all.append(' ').append(x.lived(what));
        }
    }

    private static void lookAtWall(ParapetCourt x, StringBuilder all) {
        all.append(" many");
        for (int what = 0; what < 10; what++) {
            all.append(' ').append(x.many(what));
        }
        for (int place = 0; place < x.many(0); place++) {
            all.append(" stone");
            for (int what = 0; what < 5; what++) {
                all.append(' ').append(x.stone(place, what));
            }
        }
        for (int crow = 0; crow < x.many(2); crow++) {
            all.append(" crow ").append(x.crow(crow, 0)).append(' ').append(x.crow(crow, 1));
        }
    }

    private static void lookAtTrays(ParapetCourt x, StringBuilder all) {
        for (int tray = 0; tray < 4; tray++) {
            all.append(" tray");
            for (int place = 0; place < 10; place++) {
                all.append(' ').append(x.read(tray, place)).append(':').append(x.status());
            }
            // What is left of this number tells the sort.
            x.write(tray, 0, 0x123456789ABCDL);
            all.append(" sort ").append(x.read(tray, 0));
        }
    }

    // ---- the states in which calls are refused

    /** TERMS, a life, a MARK, a FRACTION, a FAULT, three TRAYS and 20 bytes on the tape; PLACE 3 is a GAP. */
    private static ParapetCourt full() {
        ParapetCourt x = of(RING, "year 3;kind bay;try 0 0 0;");
        x.year(1);
        x.mark();
        x.judge(9, 0, true);
        x.live(3);
        x.couples(2);
        put(x, 0, 0, 2, 1, 0, 1, 0);
        x.tray(1, 1, 4);
        x.write(1, 2, 77);
        x.tray(2, 3, 0);
        terms(x, "year");
        feedText(x, "gap;gap;gap;gap;gap;");
        return x;
    }

    private static ParapetCourt fresh() {
        return new ParapetCourt();
    }

    /** A WALL of GAPS alone, without TERMS. */
    private static ParapetCourt gaps() {
        ParapetCourt x = of("gap;gap;");
        put(x, 0, 0, 0, 1);
        return x;
    }

    /** CROW 0 is on no STONE. */
    private static ParapetCourt flown() {
        ParapetCourt x = full();
        x.open(0);
        return x;
    }

    private static ParapetCourt crowded() {
        ParapetCourt x = full();
        x.hatch(1, true);
        x.hatch(1, false);
        return x;
    }

    /** The YEAR is 9,999. */
    private static ParapetCourt late() {
        ParapetCourt x = full();
        x.clear(1);
        for (int left = 9999 - x.many(4); left > 0; left -= 99) {
            x.year(Math.min(99, left));
        }
        x.clear(0);
        return x;
    }

    private static ParapetCourt marked() {
        ParapetCourt x = full();
        x.year(1);
        x.mark();
        x.open(4);
        x.mark();
        x.rule(3);
        return x;
    }

    private static ParapetCourt holding(long... numbers) {
        ParapetCourt x = full();
        put(x, 0, numbers);
        return x;
    }

    /** The 20 bytes on the tape are no WALL and no TERMS, and fault() told nothing yet. */
    private static ParapetCourt faulty() {
        ParapetCourt x = full();
        x.wall(20);
        x.back();
        feedText(x, "gap;gap;year 1;stop;");
        return x;
    }

    private static ParapetCourt longTape() {
        ParapetCourt x = full();
        feedText(x, times(" ", 300));
        return x;
    }

    // ---- promises 5 to 8

    private static void traysRefuse() {
        refuse(5, 1, "no such TRAY: -1", RefusedTests::full, x -> said(x.tray(-1, 0, 1)));
        refuse(5, 1, "no such TRAY: 4", RefusedTests::full, x -> said(x.tray(4, 0, 1)));
        refuse(5, 1, "no such sort: -1", RefusedTests::full, x -> said(x.tray(0, -1, 1)));
        refuse(5, 1, "no such sort: 4", RefusedTests::full, x -> said(x.tray(0, 4, 1)));
        refuse(5, 1, "no such TRAY ahead of 61 numbers", RefusedTests::full, x -> said(x.tray(4, 0, 61)));
        refuse(5, 1, "no such TRAY ahead of below 0", RefusedTests::full, x -> said(x.tray(-1, 0, -1)));
        refuse(5, 1, "no such sort ahead of 61 numbers", RefusedTests::full, x -> said(x.tray(0, 4, 61)));
        refuse(5, 1, "no such sort ahead of below 0", RefusedTests::full, x -> said(x.tray(0, -1, -1)));
        refuse(5, 5, "61 numbers", RefusedTests::full, x -> said(x.tray(0, 0, 61)));
        refuse(5, 5, "61 numbers of a MISSING one", RefusedTests::full, x -> said(x.tray(3, 3, 61)));
        refuse(5, 5, "far too many", RefusedTests::full, x -> said(x.tray(0, 0, MAX)));
        refuse(5, 6, "below 0", RefusedTests::full, x -> said(x.tray(0, 0, -1)));
        refuse(5, 6, "far below 0", RefusedTests::full, x -> said(x.tray(3, 0, MIN)));
        for (int far : new int[] {-1, 4, MIN, MAX}) {
            refuse(6, 1, "no such TRAY", RefusedTests::full, x -> said(x.write(far, -1, 7)));
            refuse(7, 1, "no such TRAY", RefusedTests::full, x -> x.read(far, -1));
        }
        refuse(6, 3, "MISSING", RefusedTests::full, x -> said(x.write(3, 0, 7)));
        refuse(6, 3, "MISSING ahead of a place", RefusedTests::full, x -> said(x.write(3, -1, 7)));
        refuse(7, 3, "MISSING", RefusedTests::full, x -> x.read(3, 0));
        refuse(7, 3, "MISSING ahead of a place", RefusedTests::full, x -> x.read(3, 60));
        for (int far : new int[] {-1, 6, 60, MIN, MAX}) {
            refuse(6, 4, "a place that the TRAY has not", RefusedTests::full, x -> said(x.write(0, far, 7)));
            refuse(7, 4, "a place that the TRAY has not", RefusedTests::full, x -> x.read(0, far));
        }
        refuse(6, 4, "a TRAY of no numbers", RefusedTests::full, x -> said(x.write(2, 0, 7)));
        refuse(7, 4, "a TRAY of no numbers", RefusedTests::full, x -> x.read(2, 0));
    }

    /** "1, 3 (either), 11, 6, 4, asked in this order". */
    private static void pourRefuses() {
        refuse(8, 1, "no such TRAY ahead of MISSING, below 0, a place", RefusedTests::full, x -> said(x.pour(4, -1, 3, -1, -1)));
        refuse(8, 1, "no such TRAY to pour to, the other MISSING", RefusedTests::full, x -> said(x.pour(3, -1, 4, -1, -1)));
        refuse(8, 1, "no such TRAY: -1", RefusedTests::full, x -> said(x.pour(-1, 0, 0, 0, 1)));
        refuse(8, 1, "no such TRAY to pour to: -1", RefusedTests::full, x -> said(x.pour(0, 0, -1, 0, 1)));
        refuse(8, 3, "MISSING ahead of below 0, a place", RefusedTests::full, x -> said(x.pour(3, -1, 0, -1, -1)));
        refuse(8, 3, "MISSING to pour to", RefusedTests::full, x -> said(x.pour(0, -1, 3, -1, -1)));
        refuse(8, 3, "both MISSING", RefusedTests::full, x -> said(x.pour(3, 0, 3, 0, 0)));
        refuse(8, 11, "unlike sorts ahead of below 0, a place", RefusedTests::full, x -> said(x.pour(0, -1, 1, -1, -1)));
        refuse(8, 11, "unlike sorts the other way", RefusedTests::full, x -> said(x.pour(1, 0, 0, 0, 0)));
        refuse(8, 6, "below 0 ahead of a place", RefusedTests::full, x -> said(x.pour(0, -1, 2, 9, -1)));
        refuse(8, 6, "far below 0", RefusedTests::full, x -> said(x.pour(0, 0, 0, 1, MIN)));
        refuse(8, 4, "a place below 0", RefusedTests::full, x -> said(x.pour(0, -1, 0, 0, 1)));
        refuse(8, 4, "a place below 0 to pour to", RefusedTests::full, x -> said(x.pour(0, 0, 0, -1, 1)));
        refuse(8, 4, "a place behind the last", RefusedTests::full, x -> said(x.pour(0, 6, 0, 0, 1)));
        refuse(8, 4, "a place behind the last to pour to", RefusedTests::full, x -> said(x.pour(0, 0, 0, 6, 1)));
        refuse(8, 4, "one number too few", RefusedTests::full, x -> said(x.pour(0, 2, 0, 0, 5)));
        refuse(8, 4, "one place too few", RefusedTests::full, x -> said(x.pour(0, 0, 0, 2, 5)));
        refuse(8, 4, "to a TRAY of no numbers", RefusedTests::full, x -> said(x.pour(0, 0, 2, 0, 1)));
        refuse(8, 4, "numbers that wrap around", RefusedTests::full, x -> said(x.pour(0, 1, 0, 0, MAX)));
        refuse(8, 4, "places that wrap around", RefusedTests::full, x -> said(x.pour(0, MAX, 0, MAX, 1)));
        refuse(8, 4, "none from a place far behind the last", RefusedTests::full, x -> said(x.pour(0, 7, 0, 0, 0)));
        refuse(8, 4, "none from a place below 0", RefusedTests::full, x -> said(x.pour(0, -1, 0, 0, 0)));
    }

    // ---- promises 10 to 16

    private static void textsRefuse() {
        for (int n : new int[] {-1, 21, 901, MIN, MAX}) {
            refuse(10, 5, "the tape has not so many bytes", RefusedTests::full, x -> x.wall(n));
            refuse(11, 5, "the tape has not so many bytes", RefusedTests::full, x -> x.terms(n));
        }
        refuse(10, 5, "an empty tape", RefusedTests::fresh, x -> x.wall(1));
        refuse(11, 5, "an empty tape", RefusedTests::fresh, x -> x.terms(1));
        refuse(11, 5, "above 300", RefusedTests::longTape, x -> x.terms(301));
        refuse(11, 5, "all of 320 bytes", RefusedTests::longTape, x -> x.terms(320));
        refuse(10, 10, "a FAULT: the old one stays", RefusedTests::faulty, x -> x.wall(20), false);
        refuse(10, 10, "a FAULT at the end", RefusedTests::faulty, x -> x.wall(3), false);
        refuse(11, 10, "a FAULT: the old ones stay", RefusedTests::faulty, x -> x.terms(20), false);
    }

    private static void askingRefuses() {
        for (int what : new int[] {-1, 10, MIN, MAX}) {
            refuse(13, 5, "no such what", RefusedTests::full, x -> x.many(what));
        }
        for (int place : new int[] {-1, 5, MIN, MAX}) {
            refuse(14, 2, "no such PLACE", RefusedTests::full, x -> x.stone(place, 0));
            refuse(14, 2, "no such PLACE ahead of no such what", RefusedTests::full, x -> x.stone(place, 5));
        }
        refuse(14, 2, "a WALL of no PLACES", RefusedTests::fresh, x -> x.stone(0, 0));
        for (int what : new int[] {-1, 5, MIN, MAX}) {
            refuse(14, 5, "no such what", RefusedTests::full, x -> x.stone(0, what));
            refuse(14, 5, "no such what ahead of a GAP", RefusedTests::full, x -> x.stone(3, what));
        }
        for (int what = 0; what < 5; what++) {
            int asked = what;
            refuse(14, 8, "it is a GAP", RefusedTests::full, x -> x.stone(3, asked));
        }
        for (int crow : new int[] {-1, 2, MIN, MAX}) {
            refuse(15, 2, "no such CROW", RefusedTests::full, x -> x.crow(crow, 0));
            refuse(15, 2, "no such CROW ahead of no such what", RefusedTests::full, x -> x.crow(crow, 2));
        }
        refuse(15, 2, "no CROWS", RefusedTests::gaps, x -> x.crow(0, 1));
        for (int what : new int[] {-1, 2, MIN, MAX}) {
            refuse(15, 5, "no such what", RefusedTests::full, x -> x.crow(0, what));
            refuse(15, 5, "no such what ahead of on none", RefusedTests::flown, x -> x.crow(0, what));
        }
        refuse(15, 8, "on none", RefusedTests::flown, x -> x.crow(0, 0));
        refuse(16, 1, "no such TRAY", RefusedTests::full, x -> x.copyMoss(-1));
        refuse(16, 1, "no such TRAY", RefusedTests::full, x -> x.copyMoss(4));
        refuse(16, 3, "MISSING", RefusedTests::full, x -> x.copyMoss(3));
        refuse(16, 3, "MISSING, no PLACES", RefusedTests::fresh, x -> x.copyMoss(0));
        refuse(16, 4, "one number too few", RefusedTests::full, x -> x.copyMoss(1));
        refuse(16, 4, "a TRAY of no numbers", RefusedTests::full, x -> x.copyMoss(2));
    }

    // ---- promises 17 to 25

    private static void doingRefuses() {
        for (int place : new int[] {-1, 5, MIN, MAX}) {
            refuse(17, 2, "no such PLACE", RefusedTests::full, x -> x.judge(0, place, true));
            refuse(17, 2, "no such PLACE ahead of GUILT", RefusedTests::full, x -> x.judge(100, place, true));
            refuse(19, 2, "no such PLACE", RefusedTests::full, x -> x.carve(place, 0));
            refuse(19, 2, "no such PLACE ahead of LENIENT", RefusedTests::full, x -> x.carve(place, 31));
            refuse(20, 2, "no such PLACE", RefusedTests::full, x -> x.clear(place));
            refuse(21, 2, "no such PLACE", RefusedTests::full, x -> said(x.open(place)));
            refuse(22, 2, "no such PLACE", RefusedTests::full, x -> said(x.mend(place, 1, 1)));
            refuse(22, 2, "no such PLACE ahead of numbers", RefusedTests::full, x -> said(x.mend(place, 31, 0)));
        }
        for (int guilt : new int[] {-1, 100, MIN, MAX}) {
            refuse(17, 5, "GUILT", RefusedTests::full, x -> x.judge(guilt, 0, false));
            refuse(17, 5, "GUILT at a GAP", RefusedTests::full, x -> x.judge(guilt, 3, true));
        }
        for (int years : new int[] {0, -1, 100, MIN, MAX}) {
            refuse(18, 5, "YEARS that can't be", RefusedTests::full, x -> x.year(years));
            refuse(18, 5, "YEARS that can't be ahead of above 9,999", RefusedTests::late, x -> x.year(years));
        }
        refuse(18, 7, "above 9,999 by one", RefusedTests::late, x -> x.year(1));
        refuse(18, 7, "above 9,999", RefusedTests::late, x -> x.year(99));
        for (int lenient : new int[] {-1, 31, MIN, MAX}) {
            refuse(19, 5, "LENIENT", RefusedTests::full, x -> x.carve(0, lenient));
            refuse(19, 5, "LENIENT ahead of a GAP", RefusedTests::full, x -> x.carve(3, lenient));
            refuse(22, 5, "LENIENT", RefusedTests::full, x -> said(x.mend(3, lenient, 1)));
            refuse(22, 5, "LENIENT ahead of a STONE", RefusedTests::full, x -> said(x.mend(0, lenient, 1)));
        }
        for (int strong : new int[] {0, -1, 10, MIN, MAX}) {
            refuse(22, 5, "STRENGTH", RefusedTests::full, x -> said(x.mend(3, 1, strong)));
            refuse(22, 5, "STRENGTH ahead of a STONE", RefusedTests::full, x -> said(x.mend(0, 1, strong)));
        }
        refuse(19, 8, "it is a GAP", RefusedTests::full, x -> x.carve(3, 4));
        refuse(20, 8, "it is a GAP", RefusedTests::full, x -> x.clear(3));
        refuse(20, 8, "it has none", RefusedTests::full, x -> x.clear(1));
        refuse(21, 8, "it is a GAP", RefusedTests::full, x -> said(x.open(3)));
        refuse(22, 9, "it is a STONE", RefusedTests::full, x -> said(x.mend(0, 4, 4)));
        for (int odds : new int[] {-1, 17, MIN, MAX}) {
            refuse(25, 5, "ODDS", RefusedTests::full, x -> said(x.rule(odds)));
        }
    }

    private static void crowsRefuse() {
        for (int far : new int[] {-1, 5, MIN, MAX}) {
            refuse(23, 2, "no such CROW", RefusedTests::full, x -> x.fly(far, 1));
            refuse(23, 2, "no such CROW ahead of a GAP", RefusedTests::full, x -> x.fly(far, 3));
            refuse(23, 2, "no such PLACE", RefusedTests::full, x -> x.fly(0, far));
            refuse(24, 2, "no such PLACE", RefusedTests::full, x -> x.hatch(far, true));
            refuse(24, 2, "no such PLACE ahead of a fifth", RefusedTests::crowded, x -> x.hatch(far, true));
        }
        refuse(23, 2, "CROW 2 of two", RefusedTests::full, x -> x.fly(2, 1));
        refuse(23, 2, "CROW 4 of four", RefusedTests::crowded, x -> x.fly(4, 1));
        refuse(23, 2, "no CROWS", RefusedTests::gaps, x -> x.fly(0, 0));
        refuse(23, 8, "that is a GAP", RefusedTests::full, x -> x.fly(0, 3));
        refuse(23, 8, "that is a GAP, it was on none", RefusedTests::flown, x -> x.fly(0, 0));
        refuse(23, 9, "it is there", RefusedTests::full, x -> x.fly(0, 0));
        refuse(24, 7, "a fifth", RefusedTests::crowded, x -> x.hatch(0, false));
        refuse(24, 7, "a fifth ahead of a GAP", RefusedTests::crowded, x -> x.hatch(3, true));
        refuse(24, 8, "that is a GAP", RefusedTests::full, x -> x.hatch(3, true));
    }

    // ---- promises 26 to 33

    private static void turningRefuses() {
        for (int far : new int[] {-1, 5, MIN, MAX}) {
            refuse(26, 2, "no such PLACE", RefusedTests::full, x -> x.far(far, 0));
            refuse(26, 2, "no such other PLACE", RefusedTests::full, x -> x.far(0, far));
            refuse(27, 2, "no such STONE", RefusedTests::full, x -> x.mercy(far, 0));
            refuse(27, 2, "no such PLACE", RefusedTests::full, x -> x.mercy(0, far));
            refuse(27, 2, "no such PLACE ahead of a GAP", RefusedTests::full, x -> x.mercy(3, far));
            refuse(28, 2, "no such PLACE", RefusedTests::full, x -> x.turned(5, far));
            refuse(28, 2, "no such PLACE ahead of GUILT", RefusedTests::full, x -> x.turned(100, far));
            refuse(29, 2, "no such PLACE", RefusedTests::full, x -> x.verdict(5, far));
            refuse(29, 2, "no such PLACE ahead of GUILT", RefusedTests::full, x -> x.verdict(-1, far));
            refuse(32, 2, "no such PLACE", RefusedTests::full, x -> x.least(far));
            refuse(33, 2, "no such PLACE", RefusedTests::full, x -> x.freeIn(5, far));
            refuse(33, 2, "no such PLACE ahead of GUILT", RefusedTests::full, x -> x.freeIn(100, far));
        }
        refuse(26, 2, "a WALL of no PLACES", RefusedTests::fresh, x -> x.far(0, 0));
        refuse(27, 8, "it is a GAP", RefusedTests::full, x -> x.mercy(3, 0));
        for (int guilt : new int[] {-1, 100, MIN, MAX}) {
            refuse(28, 5, "GUILT", RefusedTests::full, x -> x.turned(guilt, 0));
            refuse(29, 5, "GUILT", RefusedTests::full, x -> x.verdict(guilt, 0));
            refuse(29, 5, "GUILT at a GAP", RefusedTests::full, x -> x.verdict(guilt, 3));
            refuse(30, 5, "GUILT", RefusedTests::full, x -> x.stand(guilt));
            refuse(30, 5, "GUILT ahead of no STONES", RefusedTests::gaps, x -> x.stand(guilt));
            refuse(31, 5, "GUILT", RefusedTests::full, x -> x.fall(guilt));
            refuse(31, 5, "GUILT ahead of no STONES", RefusedTests::gaps, x -> x.fall(guilt));
            refuse(33, 5, "GUILT", RefusedTests::full, x -> x.freeIn(guilt, 0));
        }
        refuse(30, 8, "no STONES", RefusedTests::gaps, x -> x.stand(0));
        refuse(31, 8, "no STONES", RefusedTests::gaps, x -> x.fall(99));
        refuse(30, 8, "no PLACES", RefusedTests::fresh, x -> x.stand(0));
        refuse(31, 8, "no PLACES", RefusedTests::fresh, x -> x.fall(99));
        refuse(32, 8, "by none", RefusedTests::full, x -> x.least(3));
        refuse(33, 8, "in none", RefusedTests::full, x -> x.freeIn(99, 0));
    }

    // ---- promises 34 to 40

    private static void fitsRefuse() {
        for (int tray : new int[] {-1, 4, MIN, MAX}) {
            refuse(34, 1, "no such TRAY", RefusedTests::full, x -> x.fits(tray, -1));
            refuse(35, 1, "no such TRAY", RefusedTests::full, x -> x.fitsBy(tray, -1, 2));
            refuse(36, 1, "no such TRAY", RefusedTests::full, x -> x.ask(tray, -1, 2));
        }
        for (int n : new int[] {0, -1, 21}) {
            refuse(34, 3, "MISSING", RefusedTests::full, x -> x.fits(3, n));
            refuse(35, 3, "MISSING", RefusedTests::full, x -> x.fitsBy(3, n, 2));
            refuse(36, 3, "MISSING", RefusedTests::full, x -> x.ask(3, n, 2));
        }
        for (int n : new int[] {3, 20, 21, MAX, 715827883}) {
            refuse(34, 4, "too few numbers", RefusedTests::full, x -> x.fits(0, n));
            refuse(35, 4, "too few numbers ahead of no such what", RefusedTests::full, x -> x.fitsBy(0, n, 2));
            refuse(36, 4, "too few numbers ahead of no such what", RefusedTests::full, x -> x.ask(0, n, 2));
            refuse(34, 4, "too few ahead of a number in the TRAY", () -> holding(9, 9, 9, 9, 9, 9, 9, 9), x -> x.fits(0, n));
        }
        refuse(34, 4, "a TRAY of no numbers", RefusedTests::full, x -> x.fits(2, 1));
        for (int n : new int[] {-1, MIN, -1431655765}) {
            refuse(34, 5, "n below 0", RefusedTests::full, x -> x.fits(0, n));
            refuse(35, 5, "n below 0", RefusedTests::full, x -> x.fitsBy(0, n, 0));
            refuse(36, 5, "n below 0", RefusedTests::full, x -> x.ask(0, n, 0));
        }
        for (int what : new int[] {-1, 2, MIN, MAX}) {
            refuse(35, 5, "no such what", RefusedTests::full, x -> x.fitsBy(0, 2, what));
            refuse(36, 5, "no such what", RefusedTests::full, x -> x.ask(0, 0, what));
            refuse(35, 5, "no such what ahead of none", () -> holding(0, 0, 1, 0, 0, 0), x -> x.fitsBy(0, 2, what));
            refuse(36, 5, "no such what ahead of none", () -> holding(0, 0, 1, 0, 0, 0), x -> x.ask(0, 2, what));
            refuse(36, 5, "no such what ahead of no STONES", RefusedTests::gaps, x -> x.ask(0, 0, what));
        }
        long[][] bad = {{-1, 0, 1}, {5, 0, 1}, {0, -1, 1}, {0, 5, 1}, {0, 3, 1}, {0, 0, -1}, {0, 0, 2},
            {1L << 32, 0, 1}, {0, 1L << 32, 1}, {0, 0, 1L << 32}, {Long.MIN_VALUE, 0, 1}, {0, Long.MAX_VALUE, 0}};
        for (long[] b : bad) {
            refuse(34, 5, "a number in the TRAY", () -> holding(b[0], b[1], b[2]), x -> x.fits(0, 1));
            refuse(35, 5, "a number in the TRAY ahead of none", () -> holding(0, 0, 1, 0, 0, 0, b[0], b[1], b[2]), x -> x.fitsBy(0, 3, 0));
            refuse(36, 5, "a number in the TRAY ahead of none", () -> holding(0, 0, 1, 0, 0, 0, b[0], b[1], b[2]), x -> x.ask(0, 3, 0));
        }
        refuse(34, 5, "a PLACE of no STONE where there are no STONES", RefusedTests::gaps, x -> x.fits(0, 1));
        for (int what = 0; what < 2; what++) {
            int asked = what;
            refuse(35, 8, "there are none", () -> holding(0, 0, 1, 0, 0, 0), x -> x.fitsBy(0, 2, asked));
            refuse(36, 8, "there are none", () -> holding(0, 0, 1, 0, 0, 0), x -> x.ask(0, 2, asked));
            refuse(36, 8, "no STONES", RefusedTests::gaps, x -> x.ask(0, 0, asked));
        }
    }

    private static void cutsRefuse() {
        for (int tray : new int[] {-1, 4, MIN, MAX}) {
            refuse(37, 1, "no such TRAY", RefusedTests::full, x -> x.cuts(tray, -1));
            refuse(38, 1, "no such TRAY ahead of no such PLACE", RefusedTests::full, x -> x.cutOf(tray, -1, 5));
        }
        for (int place : new int[] {-1, 5, MIN, MAX}) {
            refuse(38, 2, "no such PLACE", RefusedTests::full, x -> x.cutOf(0, 0, place));
            refuse(38, 2, "no such PLACE ahead of MISSING", RefusedTests::full, x -> x.cutOf(3, 0, place));
            refuse(38, 2, "no such PLACE ahead of too few", RefusedTests::full, x -> x.cutOf(0, 7, place));
            refuse(38, 2, "no such PLACE ahead of n below 0", RefusedTests::full, x -> x.cutOf(0, -1, place));
        }
        refuse(38, 2, "a WALL of no PLACES", RefusedTests::fresh, x -> x.cutOf(0, 0, 0));
        for (int n : new int[] {0, -1, 7}) {
            refuse(37, 3, "MISSING", RefusedTests::full, x -> x.cuts(3, n));
            refuse(38, 3, "MISSING", RefusedTests::full, x -> x.cutOf(3, n, 0));
        }
        for (int n : new int[] {3, 6, 7, MAX, 715827883}) {
            refuse(37, 4, "too few numbers", RefusedTests::full, x -> x.cuts(0, n));
            refuse(38, 4, "too few numbers", RefusedTests::full, x -> x.cutOf(0, n, 3));
            refuse(37, 4, "too few ahead of a number in the TRAY", () -> holding(9, 9, 9, 9, 9, 9, 9, 9), x -> x.cuts(0, n));
        }
        for (int n : new int[] {-1, MIN, -1431655765}) {
            refuse(37, 5, "n below 0", RefusedTests::full, x -> x.cuts(0, n));
            refuse(38, 5, "n below 0", RefusedTests::full, x -> x.cutOf(0, n, 0));
        }
        refuse(37, 5, "seven", () -> holding(new long[21]), x -> x.cuts(0, 7));
        refuse(38, 5, "seven", () -> holding(new long[21]), x -> x.cutOf(0, 7, 0));
        refuse(37, 5, "twenty", () -> holding(new long[60]), x -> x.cuts(0, 20));
        long[][] bad = {{-1, 0, 1}, {100, 0, 1}, {0, -1, 1}, {0, 5, 1}, {0, 0, -1}, {0, 0, 2},
            {1L << 32, 0, 1}, {0, 1L << 32, 1}, {0, 0, 1L << 32}, {Long.MIN_VALUE, 0, 1}, {0, Long.MAX_VALUE, 0}};
        for (long[] b : bad) {
            refuse(37, 5, "a number in the TRAY", () -> holding(b[0], b[1], b[2]), x -> x.cuts(0, 1));
            refuse(38, 5, "a number in the TRAY", () -> holding(b[0], b[1], b[2]), x -> x.cutOf(0, 1, 0));
            refuse(37, 5, "a number in the TRAY ahead of no way", () -> holding(9, 3, 1, b[0], b[1], b[2]), x -> x.cuts(0, 2));
            refuse(38, 5, "a number in the TRAY ahead of no way", () -> holding(9, 3, 1, b[0], b[1], b[2]), x -> x.cutOf(0, 2, 0));
        }
        refuse(37, 8, "CONDEMNED at a GAP", () -> holding(99, 3, 1), x -> x.cuts(0, 1));
        refuse(38, 8, "CONDEMNED at a GAP", () -> holding(99, 3, 1), x -> x.cutOf(0, 1, 0));
        refuse(37, 8, "two that can't both be", () -> holding(9, 0, 1, 9, 0, 0), x -> x.cuts(0, 2));
        refuse(38, 8, "two that can't both be", () -> holding(9, 0, 1, 9, 0, 0), x -> x.cutOf(0, 2, 3));
    }

    private static void windowsRefuse() {
        for (int place : new int[] {-1, 5, MIN, MAX}) {
            refuse(39, 2, "no such PLACE", RefusedTests::full, x -> x.windows(9, place));
            refuse(39, 2, "no such PLACE ahead of GUILT", RefusedTests::full, x -> x.windows(100, place));
            refuse(40, 2, "no such PLACE", RefusedTests::full, x -> x.windowSet(9, place));
            refuse(40, 2, "no such PLACE ahead of GUILT", RefusedTests::full, x -> x.windowSet(100, place));
        }
        for (int guilt : new int[] {-1, 100, MIN, MAX}) {
            refuse(39, 5, "GUILT", RefusedTests::full, x -> x.windows(guilt, 0));
            refuse(39, 5, "GUILT ahead of a GAP", RefusedTests::full, x -> x.windows(guilt, 3));
            refuse(40, 5, "GUILT", RefusedTests::full, x -> x.windowSet(guilt, 0));
            refuse(40, 5, "GUILT ahead of a GAP", RefusedTests::full, x -> x.windowSet(guilt, 3));
        }
        refuse(39, 8, "by none", RefusedTests::full, x -> x.windows(0, 4));
        refuse(40, 8, "by none", RefusedTests::full, x -> x.windowSet(0, 4));
        for (int guilt : new int[] {0, 9, 99}) {
            refuse(39, 9, "at a GAP: 9, not 8", RefusedTests::full, x -> x.windows(guilt, 3));
            refuse(40, 9, "at a GAP: 9, not 8", RefusedTests::full, x -> x.windowSet(guilt, 3));
            refuse(39, 9, "at a GAP, no STONES", RefusedTests::gaps, x -> x.windows(guilt, 0));
            refuse(40, 9, "at a GAP, no STONES", RefusedTests::gaps, x -> x.windowSet(guilt, 0));
        }
    }

    // ---- promises 41 to 47

    private static void walksRefuse() {
        for (int far : new int[] {-1, 5, MIN, MAX}) {
            refuse(41, 2, "no such PLACE", RefusedTests::full, x -> x.walk(far, 0));
            refuse(41, 2, "no such other PLACE", RefusedTests::full, x -> x.walk(0, far));
            refuse(41, 2, "no such PLACE ahead of no way", RefusedTests::full, x -> x.walk(3, far));
            refuse(42, 2, "no such PLACE", RefusedTests::full, x -> x.walkAt(far, 0, 0));
            refuse(42, 2, "no such other PLACE ahead of no such step", RefusedTests::full, x -> x.walkAt(0, far, 99));
        }
        refuse(41, 2, "a WALL of no PLACES", RefusedTests::fresh, x -> x.walk(0, 0));
        refuse(42, 2, "a WALL of no PLACES", RefusedTests::fresh, x -> x.walkAt(0, 0, 0));
        refuse(41, 8, "from a GAP", RefusedTests::full, x -> x.walk(3, 4));
        refuse(41, 8, "to a GAP", RefusedTests::full, x -> x.walk(4, 3));
        refuse(41, 8, "from a GAP to itself", RefusedTests::full, x -> x.walk(3, 3));
        refuse(41, 8, "GAPS both ways", RefusedTests::flown, x -> x.walk(2, 4));
        refuse(42, 8, "GAPS both ways", RefusedTests::flown, x -> x.walkAt(2, 4, 0));
        refuse(42, 8, "from a GAP to itself", RefusedTests::full, x -> x.walkAt(3, 3, 0));
        for (int k : new int[] {-1, 3, MIN, MAX}) {
            refuse(42, 8, "no such step", RefusedTests::full, x -> x.walkAt(4, 1, k));
            refuse(42, 8, "no such step the other way", RefusedTests::full, x -> x.walkAt(1, 4, k));
        }
        refuse(42, 8, "a step of a walk of none", RefusedTests::full, x -> x.walkAt(1, 1, 1));
    }

    private static void gamesRefuse() {
        for (int place : new int[] {-1, 5, MIN, MAX}) {
            refuse(44, 2, "no such PLACE", RefusedTests::full, x -> x.game(5, place, 2));
            refuse(44, 2, "no such PLACE ahead of numbers", RefusedTests::full, x -> x.game(100, place, 5));
            refuse(45, 2, "no such PLACE", RefusedTests::full, x -> x.moveOf(5, place, 2));
            refuse(45, 2, "no such PLACE ahead of numbers", RefusedTests::full, x -> x.moveOf(100, place, 0));
        }
        for (int guilt : new int[] {-1, 100, MIN, MAX}) {
            refuse(44, 5, "GUILT", RefusedTests::full, x -> x.game(guilt, 0, 2));
            refuse(45, 5, "GUILT", RefusedTests::full, x -> x.moveOf(guilt, 0, 2));
            refuse(45, 5, "GUILT ahead of nothing", RefusedTests::gaps, x -> x.moveOf(guilt, 0, 2));
            refuse(46, 5, "GUILT", RefusedTests::full, x -> said(x.lot(guilt, 0)));
            refuse(46, 5, "GUILT ahead of no STONES", RefusedTests::gaps, x -> said(x.lot(guilt, 1)));
        }
        for (int turns : new int[] {-1, 5, MIN, MAX}) {
            refuse(44, 5, "turns", RefusedTests::full, x -> x.game(5, 0, turns));
            refuse(45, 5, "turns", RefusedTests::full, x -> x.moveOf(5, 0, turns));
            refuse(45, 5, "turns ahead of nothing", RefusedTests::gaps, x -> x.moveOf(5, 0, turns));
        }
        refuse(45, 5, "turns 0, too", RefusedTests::full, x -> x.moveOf(5, 0, 0));
        refuse(45, 5, "turns 0 ahead of nothing", RefusedTests::gaps, x -> x.moveOf(5, 0, 0));
        refuse(45, 8, "nothing", RefusedTests::gaps, x -> x.moveOf(5, 0, 1));
        for (int what : new int[] {-1, 2, MIN, MAX}) {
            refuse(46, 5, "no such what", RefusedTests::full, x -> said(x.lot(5, what)));
            refuse(46, 5, "no such what ahead of no STONES", RefusedTests::gaps, x -> said(x.lot(5, what)));
        }
        refuse(46, 8, "no STONES", RefusedTests::gaps, x -> said(x.lot(5, 0)));
        refuse(46, 8, "no PLACES", RefusedTests::fresh, x -> said(x.lot(5, 1)));
        for (int k : new int[] {-1, 11, MIN, MAX}) {
            refuse(47, 5, "k", RefusedTests::full, x -> said(x.couples(k)));
        }
    }

    // ---- promises 48 to 52

    private static void termsRefuse() {
        for (int seed : new int[] {-1, 10000, MIN, MAX}) {
            refuse(48, 5, "a seed", RefusedTests::full, x -> x.live(seed));
            refuse(48, 5, "a seed ahead of no TERMS", RefusedTests::gaps, x -> x.live(seed));
            refuse(50, 5, "a seed", RefusedTests::full, x -> said(x.mean(seed, 1)));
            refuse(50, 5, "a seed ahead of no TERMS", RefusedTests::gaps, x -> said(x.mean(seed, 1)));
        }
        refuse(48, 8, "no TERMS", RefusedTests::gaps, x -> x.live(0));
        refuse(48, 8, "no TERMS at first", RefusedTests::fresh, x -> x.live(9999));
        for (int what : new int[] {-1, 5, MIN, MAX}) {
            refuse(49, 5, "no such what", RefusedTests::full, x -> x.lived(what));
            refuse(49, 5, "no such what ahead of there was none", RefusedTests::fresh, x -> x.lived(what));
        }
        for (int what = 0; what < 5; what++) {
            int asked = what;
            refuse(49, 8, "there was none", RefusedTests::gaps, x -> x.lived(asked));
        }
        for (int many : new int[] {0, -1, 21, MIN, MAX}) {
            refuse(50, 5, "so many seeds", RefusedTests::full, x -> said(x.mean(0, many)));
            refuse(50, 5, "so many seeds ahead of no TERMS", RefusedTests::gaps, x -> said(x.mean(0, many)));
        }
        refuse(50, 5, "the last above 9,999", RefusedTests::full, x -> said(x.mean(9999, 2)));
        refuse(50, 5, "the last above 9,999", RefusedTests::full, x -> said(x.mean(9981, 20)));
        refuse(50, 5, "the last above 9,999 ahead of no TERMS", RefusedTests::gaps, x -> said(x.mean(9981, 20)));
        refuse(50, 5, "a last seed that wraps around", RefusedTests::full, x -> said(x.mean(MAX, 20)));
        refuse(50, 8, "no TERMS", RefusedTests::gaps, x -> said(x.mean(0, 1)));
    }

    private static void marksRefuse() {
        refuse(51, 7, "a fourth MARK", RefusedTests::marked, ParapetCourt::mark);
        refuse(52, 8, "no MARKS", RefusedTests::gaps, ParapetCourt::back);
        refuse(52, 8, "no MARKS at first", RefusedTests::fresh, ParapetCourt::back);
    }

    // ---- what the document excepts

    /** "but wall(), terms() with 10 the tape, and what fault() tells". */
    private static void faultyTextsChangeTheTapeAlone() {
        sentence(10, "with 10 the tape is empty, fault() tells, the NAMES stay");
        ParapetCourt x = faulty();
        not(x, "a FAULT", x.wall(15), 10);
        is("its kind", x.fault(0), 2);
        is("its place", x.fault(1), 8);
        is("the tape", x.feed(0, 0, 0, 0, 0), 20);
        x.wall(21);
        is("5 is not told by fault()", x.fault(1), 8);
        x.wall(1);
        is("the tape is empty again", x.feed(0, 0, 0, 0, 0), 20);
        x.terms(0);
        fine(x, "the NAMES stay", terms(x, "kind ash;fly rook dun;harsh cob;"), 3);
        sentence(11, "with 10 the tape is empty, fault() tells, the old ones stay");
        x = faulty();
        not(x, "a FAULT", x.terms(20), 10);
        is("its kind", x.fault(0), 2);
        is("its place", x.fault(1), 0);
        is("the tape", x.feed(0, 0, 0, 0, 0), 20);
        fine(x, "the old ones are lived", x.live(0), 3);
        not(x, "more than the tape has", x.terms(21), 5);
        is("the tape stays", x.feed(0, 0, 0, 0, 0), 40);
    }

    /** "status(), fault(), feed(), top(), bottom() have none". */
    private static void callsWithoutStatus() {
        sentence(2, "the latest call that has one");
        ParapetCourt x = full();
        for (int left = 0; left < 2; left++) {
            if (left == 0) {
                x.stone(3, 0);
            } else {
                x.stone(0, 0);
            }
            int status = left == 0 ? 8 : 0;
            is("status()", x.status(), status);
            x.status();
            is("behind status()", x.status(), status);
            x.fault(0);
            is("behind fault(0)", x.status(), status);
            x.fault(9);
            is("behind fault(9)", x.status(), status);
            x.top();
            x.bottom();
            is("behind top(), bottom()", x.status(), status);
            x.feed(0, 0, 0, 0, 0);
            is("behind feed()", x.status(), status);
            for (int i = 0; i < 46; i++) {
                x.feed(0, 0, 0, 0, 0);
            }
            is("NONE of a feed()", x.feed(0, 0, 0, 0, 0), -1);
            is("behind it", x.status(), status);
        }
    }
}
