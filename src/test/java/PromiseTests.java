/** For each promise of the document: ordinary inputs, the edges that it names, and wrong inputs. */
public final class PromiseTests extends Checks {
    private static final int[] ODD_NUMBERS = {Integer.MIN_VALUE, -2, -1, 100, 10000, Integer.MAX_VALUE};

    public static void main(String[] args) {
        newObject();
        statusTopBottom();
        trays();
        pouring();
        tape();
        wallTexts();
        wallFaults();
        termsTexts();
        termsFaults();
        asking();
        trials();
        years();
        stonesChanged();
        crowsMoved();
        whoTurns();
        bestPlaces();
        fitting();
        cutting();
        windowed();
        walking();
        gaming();
        odds();
        living();
        livingEdges();
        means();
        marking();
        end("all promises hold");
    }

    // ---- promises 1 to 4

    private static void newObject() {
        promise = 1;
        ParapetCourt x = new ParapetCourt();
        is("status", x.status(), 0);
        is("top", x.top(), 0);
        is("bottom", x.bottom(), 1);
        is("fault(0)", x.fault(0), -1);
        is("fault(1)", x.fault(1), -1);
        is("status behind fault()", x.status(), 0);
        for (int tray = 0; tray < 4; tray++) {
            not(x, "read of a missing tray", x.read(tray, 0), 3);
        }
        int[] due = {0, 0, 0, 8, 0, 0, 0, 0, 0, 0};
        for (int what = 0; what < 10; what++) {
            fine(x, "many(" + what + ")", x.many(what), due[what]);
        }
        not(x, "live without terms", x.live(0), 8);
        not(x, "back without marks", x.back(), 8);
        is("the tape is empty", x.feed(0, 0, 0, 0, 0), 20);
    }

    private static void statusTopBottom() {
        promise = 2;
        ParapetCourt x = of(RING);
        x.stone(3, 0);
        is("status", x.status(), 8);
        x.feed(1, 2, 3, 4, 5);
        x.fault(0);
        x.fault(7);
        x.top();
        x.bottom();
        is("status behind calls that have none", x.status(), 8);
        x.longest();
        is("status behind a call that is fine", x.status(), 0);
        promise = 3;
        x.couples(5);
        is("top of no odds", x.top(), 0);
        x.lot(12, 1);
        long top = x.top();
        x.lot(100, 0);
        is("top behind a call that fails", x.top(), top);
        promise = 4;
        x.couples(4);
        is("bottom", x.bottom(), 256);
        x.couples(11);
        is("bottom behind a call that fails", x.bottom(), 256);
        x.couples(5);
        is("bottom of nothing", x.bottom(), 1);
    }

    // ---- promises 5 to 8

    private static void trays() {
        promise = 5;
        ParapetCourt x = new ParapetCourt();
        fine(x, "tray", x.tray(0, 0, 60));
        for (int i = 0; i < 60; i++) {
            fine(x, "all are 0", x.read(0, i), 0);
        }
        x.write(0, 3, 5);
        fine(x, "tray anew", x.tray(0, 3, 4));
        fine(x, "0 anew", x.read(0, 3), 0);
        not(x, "no such tray", x.tray(-1, 0, 1), 1);
        not(x, "no such tray", x.tray(4, 0, 1), 1);
        not(x, "no such sort", x.tray(0, -1, 1), 1);
        not(x, "no such sort", x.tray(0, 4, 100), 1);
        not(x, "61 numbers", x.tray(0, 0, 61), 5);
        not(x, "below 0 numbers", x.tray(0, 0, -1), 6);
        not(x, "far below 0 numbers", x.tray(0, 0, Integer.MIN_VALUE), 6);
        not(x, "far too many", x.tray(0, 0, Integer.MAX_VALUE), 5);
        fine(x, "what failed changed nothing", x.read(0, 3), 0);
        fine(x, "a tray of no numbers", x.tray(1, 2, 0));
        not(x, "which has no place", x.read(1, 0), 4);
        promise = 6;
        long big = 0x1234567890ABCDEFL;
        long[] cut = {(byte) big, (short) big, (int) big, big};
        for (int sort = 0; sort < 4; sort++) {
            x.tray(2, sort, 2);
            fine(x, "write", x.write(2, 1, big));
            fine(x, "cut", x.read(2, 1), cut[sort]);
            fine(x, "write", x.write(2, 0, 255 + 65280 + (1L << 40)));
            fine(x, "cut", x.read(2, 0), sort < 2 ? -1 : sort == 2 ? 65535 : 65535 + (1L << 40));
        }
        not(x, "no such tray", x.write(4, 0, 0), 1);
        not(x, "no such tray", x.write(-1, 0, 0), 1);
        not(x, "missing", x.write(3, 0, 0), 3);
        not(x, "no such place", x.write(2, 2, 0), 4);
        not(x, "no such place", x.write(2, -1, 0), 4);
        promise = 7;
        x.write(2, 0, -1);
        fine(x, "-1 that is no NONE", x.read(2, 0), -1);
        not(x, "no such tray", x.read(4, 0), 1);
        not(x, "missing", x.read(3, -1), 3);
        not(x, "no such place", x.read(2, 2), 4);
        not(x, "no such place", x.read(2, Integer.MIN_VALUE), 4);
    }

    private static void pouring() {
        promise = 8;
        ParapetCourt x = new ParapetCourt();
        put(x, 0, 1, 2, 3, 4, 5, 6);
        put(x, 1, 0, 0, 0, 0);
        fine(x, "pour", x.pour(0, 1, 1, 2, 2));
        is("poured", x.read(1, 2) * 10 + x.read(1, 3), 23);
        is("beside", x.read(1, 1), 0);
        fine(x, "up in itself", x.pour(0, 0, 0, 1, 5));
        for (int i = 0; i < 6; i++) {
            is("as they were", x.read(0, i), i == 0 ? 1 : i);
        }
        fine(x, "down in itself", x.pour(0, 1, 0, 0, 5));
        is("as they were", x.read(0, 0) * 100 + x.read(0, 1) * 10 + x.read(0, 4), 125);
        fine(x, "none of them", x.pour(0, 6, 1, 4, 0));
        not(x, "no such tray", x.pour(4, 0, 2, 0, -1), 1);
        not(x, "no such tray", x.pour(0, 0, -1, 0, 1), 1);
        not(x, "missing from", x.pour(2, 0, 0, 0, -1), 3);
        not(x, "missing to", x.pour(0, 0, 2, 0, 1), 3);
        x.tray(3, 2, 4);
        not(x, "unlike", x.pour(0, -1, 3, 0, -1), 11);
        not(x, "below 0", x.pour(0, -1, 1, 0, -1), 6);
        not(x, "too few from", x.pour(0, 5, 1, 0, 2), 4);
        not(x, "too few to", x.pour(0, 0, 1, 3, 2), 4);
        not(x, "no such place", x.pour(0, -1, 1, 0, 1), 4);
        not(x, "no such place", x.pour(0, 0, 1, -1, 1), 4);
        not(x, "far too many", x.pour(0, 1, 1, 1, Integer.MAX_VALUE), 4);
    }

    // ---- promises 9 to 12

    private static void tape() {
        promise = 9;
        ParapetCourt x = new ParapetCourt();
        is("order of bytes", x.feed(0x6F646473, 0x2037203B, 0x67617020, 0x3B202020, 0xFF000000), 20);
        is("read so", x.wall(13), 1);
        is("many(3)", x.many(3), 7);
        for (int i = 1; i <= 45; i++) {
            is("feed", x.feed(0x20202020, 0x20202020, 0x20202020, 0x20202020, 0x20202020), 20 * i);
        }
        is("above 900", x.feed(0, 0, 0, 0, 0), -1);
        is("status stays", x.status(), 0);
        is("900 blanks", x.wall(900), 0);
        is("empty then", x.feed(0, 0, 0, 0, 0), 20);
        promise = 10;
        not(x, "above the tape", x.wall(21), 5);
        not(x, "below 0", x.wall(-1), 5);
        is("the tape stays", x.feed(0, 0, 0, 0, 0), 40);
        not(x, "a fault", x.wall(1), 10);
        is("the tape is empty", x.feed(0, 0, 0, 0, 0), 20);
        fine(x, "no bytes are a wall", x.wall(0), 0);
        is("the tape is empty", x.feed(0, 0, 0, 0, 0), 20);
        promise = 12;
        is("no fault", x.fault(0), 0);
        is("no place", x.fault(1), -1);
        x.wall(1);
        is("fault", x.fault(0), 1);
        is("place", x.fault(1), 0);
        is("no such what", x.fault(2), -1);
        is("no such what", x.fault(-1), -1);
        x.wall(5);
        is("status 5 tells no fault", x.fault(0), 1);
        x.terms(0);
        is("terms tell one, too", x.fault(0), 0);
    }

    private static void wallTexts() {
        promise = 10;
        ParapetCourt x = of(RING);
        fine(x, "places", x.many(0), 5);
        x.judge(12, 0, false);
        x.year(7);
        terms(x, "stop;");
        fine(x, "a wall in place of that ahead", wall(x, "stone a lenient 0 strong 9;gap ; \n stone abcdefgh\nlenient 0030 moss 9 strong 1;"), 3);
        int[] due = {3, 2, 0, 8, 0, 0, 0, 0, 5, 9};
        for (int what = 0; what < 10; what++) {
            is("many(" + what + ") of the new one", x.many(what), due[what]);
        }
        not(x, "its terms are gone", x.live(0), 8);
        is("strong", x.stone(0, 2) * 10 + x.stone(2, 2), 91);
        is("lenient", x.stone(2, 0), 30);
        is("no moss told", x.stone(0, 1), 0);
        not(x, "a fault", wall(x, "gap;gap;gap;gap"), 10);
        is("the old one stays", x.many(0), 3);
        fine(x, "ten places", wall(x, times("gap;", 10)), 10);
        fine(x, "signs beside words and numbers", wall(x, "odds16;stone a lenient 3moss 2strong 4;"), 1);
        is("moss, strong", x.stone(0, 1) * 10 + x.stone(0, 2), 24);
        fine(x, "four crows on one stone", wall(x, "stone a lenient 0;crow b on a for;crow c on a for;crow d on a against;crow e on a for;"), 1);
        is("mercy", x.mercy(0, 0), 6);
        fine(x, "odds behind stones", wall(x, "gap;odds 0;gap;"), 2);
        is("odds", x.many(3), 0);
    }

    private static void wallFault(String text, int fault, int place) {
        ParapetCourt x = of(RING);
        not(x, text, wall(x, text), 10);
        is(text + ": fault", x.fault(0), fault);
        is(text + ": its place", x.fault(1), place);
        is(text + ": the old one stays", x.many(0) * 100 + x.many(2) * 10 + x.many(3), 524);
    }

    private static void wallFaults() {
        promise = 12;
        wallFault("gap; Gap;", 1, 5);
        wallFault("gap;\tgap;", 1, 4);
        wallFault("gap;\u00e9", 1, 4);
        wallFault("gap,", 1, 3);
        wallFault("odds 00004;", 1, 5);
        wallFault("12345", 1, 0);
        wallFault("stone 12345", 1, 6);
        wallFault("gap gap $", 2, 4);
        wallFault("$ gap gap", 1, 0);
        wallFault(";", 2, 0);
        wallFault("5", 2, 0);
        wallFault("wall;", 2, 0);
        wallFault("lenient 5;", 2, 0);
        wallFault("year 5;", 2, 0);
        wallFault("gap", 2, 3);
        wallFault("gap  \n ", 2, 7);
        wallFault("odds", 2, 4);
        wallFault("odds four;", 2, 5);
        wallFault("odds 4 5;", 2, 7);
        wallFault("odds 17;", 4, 5);
        wallFault("odds 9999;", 4, 5);
        wallFault("odds 4;odds 4;", 5, 7);
        wallFault("odds 4;odds $;", 5, 7);
        wallFault("stone 5 lenient 5;", 2, 6);
        wallFault("stone abcdefghi lenient 5;", 2, 6);
        wallFault("stone abcdefghijklmnopqrstuvwxyz lenient 5;", 2, 6);
        wallFault("stone a lenient 31;", 4, 16);
        wallFault("stone a moss 3;", 2, 8);
        wallFault("stone a lenient;", 2, 15);
        wallFault("stone a lenient 5 moss 10;", 4, 23);
        wallFault("stone a lenient 5 strong 0;", 4, 25);
        wallFault("stone a lenient 5 strong 10;", 4, 25);
        wallFault("stone a lenient 5 strong 3 moss 3;", 2, 27);
        wallFault("stone a lenient 5 moss 3 moss 3;", 2, 25);
        wallFault("stone a lenient 5 moss;", 2, 22);
        wallFault("stone a lenient 5;stone a lenient 5;", 3, 24);
        wallFault("stone a lenient 5;crow a on a for;", 3, 23);
        wallFault("stone a lenient 5;crow b on a for;stone b lenient 5;", 3, 40);
        wallFault("stone a lenient 5;crow b on a for;crow c on b for;", 3, 44);
        wallFault("stone a lenient 5;crow b on b for;", 3, 28);
        wallFault("crow b on a for;stone a lenient 5;", 3, 10);
        wallFault("crow b in a for;", 2, 7);
        wallFault("crow b on 5 for;", 2, 10);
        wallFault("crow b on abcdefghi for;", 2, 10);
        wallFault("stone a lenient 5;crow b on a;", 2, 29);
        wallFault("stone a lenient 5;crow b on a on;", 2, 30);
        wallFault("stone a lenient 5;crow b on a for", 2, 33);
        wallFault("stone a lenient 5 <", 2, 18);
        wallFault(times("gap;", 10) + "gap;", 6, 40);
        wallFault(times("gap;", 10) + "stone $", 6, 40);
        wallFault("stone a lenient 5;" + times("gap;", 9) + "stone", 6, 54);
        String words = "odds stone lenient moss strong gap crow on for against year try kind harsh clear fly any when turns stands loop end stop";
        for (String word : words.split(" ")) {
            wallFault("stone " + word + " lenient 5;", 2, 6);
        }
        String crows = "stone a lenient 5;crow b on a for;crow c on a for;crow d on a for;crow e on a for;";
        wallFault(crows + "crow", 6, crows.length());
    }

    private static void termsTexts() {
        promise = 11;
        ParapetCourt x = of(RING);
        fine(x, "no steps", terms(x, ""), 0);
        fine(x, "blanks", terms(x, " \n "), 0);
        fine(x, "steps; end is none", terms(x, "loop 99;when stands ash;loop 1;stop;end;end;end;year 20;"), 5);
        fine(x, "30 steps", terms(x, times("any;", 30)), 30);
        fine(x, "300 bytes", terms(x, times("any;", 30) + times(" ", 180)), 30);
        feedText(x, times(" ", 301));
        not(x, "301 bytes", x.terms(301), 5);
        not(x, "below 0", x.terms(-1), 5);
        fine(x, "the tape stays", x.terms(300), 0);
        not(x, "the tape is empty", x.terms(1), 5);
        terms(x, "year 1;year 2;");
        not(x, "a fault", terms(x, "year"), 10);
        fine(x, "the old ones stay", x.live(0), 2);
        x.open(0);
        fine(x, "a stone carried off keeps its name", terms(x, "kind ash;when turns ash 4 99;end;"), 2);
        x.judge(30, 1, false);
        fine(x, "a stone that crumbled keeps its name", terms(x, "kind cob;fly rook ash;"), 2);
        fine(x, "all tests", terms(x, "when moss ash<0;end;when moss bay > 9;end;when moss dun = 4;end;"), 3);
    }

    private static void termsFault(String text, int fault, int place) {
        ParapetCourt x = of(RING, "year 1;");
        not(x, text, terms(x, text), 10);
        is(text + ": fault", x.fault(0), fault);
        is(text + ": its place", x.fault(1), place);
        is(text + ": the old ones stay", x.live(0), 1);
    }

    private static void termsFaults() {
        promise = 11;
        termsFault("year 1;Year 1;", 1, 7);
        termsFault("year 00001;", 1, 5);
        termsFault("year 1;$", 1, 7);
        termsFault("kind ,", 1, 5);
        termsFault("stone ash;", 2, 0);
        termsFault("turns ash 0 0;", 2, 0);
        termsFault("stands ash;", 2, 0);
        termsFault("odds 4;", 2, 0);
        termsFault("abcdefghij;", 2, 0);
        termsFault("7;", 2, 0);
        termsFault("year 0;", 4, 5);
        termsFault("year 21;", 4, 5);
        termsFault("year ash;", 2, 5);
        termsFault("try 100 0 0;", 4, 4);
        termsFault("try 99 5 0;", 4, 7);
        termsFault("try 99 4 2;", 4, 9);
        termsFault("try 99 4;", 2, 8);
        termsFault("kind abcdefghi;", 2, 5);
        termsFault("kind 3;", 2, 5);
        termsFault("kind year;", 2, 5);
        termsFault("kind elm;", 3, 5);
        termsFault("harsh jay;", 3, 6);
        termsFault("clear ash bay;", 2, 10);
        termsFault("fly rook;", 2, 8);
        termsFault("fly elm ash;", 3, 4);
        termsFault("fly ash ash;", 3, 4);
        termsFault("fly rook rook;", 3, 9);
        termsFault("fly fly ash;", 2, 4);
        termsFault("any 1;", 2, 4);
        termsFault("when;", 2, 4);
        termsFault("when ash;", 2, 5);
        termsFault("when turns ash 5 0;", 4, 15);
        termsFault("when turns ash 4 100;", 4, 17);
        termsFault("when turns ash 4;", 2, 16);
        termsFault("when stands jay;", 3, 12);
        termsFault("when moss ash 4;", 2, 14);
        termsFault("when moss ash ; 4;", 2, 14);
        termsFault("when moss ash = 10;", 4, 16);
        termsFault("when moss ash = <;", 2, 16);
        termsFault("loop 0;", 4, 5);
        termsFault("loop 100;", 4, 5);
        termsFault("end;", 2, 0);
        termsFault("loop 1;end;end;", 2, 11);
        termsFault("loop 1;end", 2, 10);
        termsFault("loop 1; ", 2, 8);
        termsFault("when stands ash;loop 2;any;end;", 2, 31);
        termsFault("loop 1;loop 1;loop 1;loop 0;", 7, 21);
        termsFault("loop 1;when stands ash;loop 1;when moss", 7, 30);
        termsFault(times("any;", 30) + "any", 6, 120);
        termsFault(times("any;", 30) + "any;$", 6, 120);
        termsFault(times("any;", 30) + "end;", 2, 120);
        termsFault(times("any;", 30) + "ash;", 2, 120);
        termsFault(times("any;", 27) + "loop 1;loop 1;loop 1;loop 1;", 6, 129);
        ParapetCourt x = new ParapetCourt();
        not(x, "a try without places", terms(x, "try 0 0 0;"), 10);
        is("its fault", x.fault(0) * 100 + x.fault(1), 406);
        x = of("stone a lenient 1;crow b on a for;");
        x.hatch(0, true);
        not(x, "a crow that was hatched has no name", terms(x, "fly a a;"), 10);
    }

    // ---- promises 13 to 16

    private static void asking() {
        promise = 13;
        ParapetCourt x = of(RING);
        int[] due = {5, 4, 2, 4, 0, 0, 0, 0, 23, 2};
        for (int what = 0; what < 10; what++) {
            fine(x, "many(" + what + ")", x.many(what), due[what]);
        }
        not(x, "no such what", x.many(10), 5);
        not(x, "no such what", x.many(-1), 5);
        x.judge(99, 0, true);
        x.judge(99, 0, false);
        x.judge(0, 0, true);
        x.year(2);
        is("trials, condemned, wrong", x.many(5) * 100 + x.many(6) * 10 + x.many(7), 322);
        is("year", x.many(4), 2);
        is("cob crumbled", x.many(8), 19);
        is("moss of stones alone", x.many(9), 8);
        promise = 14;
        x = of(RING);
        fine(x, "lenient", x.stone(4, 0), 10);
        fine(x, "moss", x.stone(1, 1), 2);
        fine(x, "strong", x.stone(2, 2), 1);
        fine(x, "strong without", x.stone(0, 2), 3);
        fine(x, "crows", x.stone(4, 3), 2);
        fine(x, "no crows", x.stone(1, 3), 0);
        fine(x, "mercy", x.stone(1, 4), 10);
        x.carve(0, 2);
        fine(x, "mercy of -1", x.stone(0, 4), -1);
        not(x, "a gap", x.stone(3, 0), 8);
        not(x, "no such place", x.stone(5, 9), 2);
        not(x, "no such place", x.stone(-1, 0), 2);
        not(x, "no such what of a gap", x.stone(3, 5), 5);
        not(x, "no such what", x.stone(0, -1), 5);
        promise = 15;
        fine(x, "on which", x.crow(1, 0), 4);
        fine(x, "against", x.crow(0, 1), 0);
        fine(x, "for", x.crow(1, 1), 1);
        x.open(4);
        not(x, "on none", x.crow(1, 0), 8);
        fine(x, "for, on none", x.crow(1, 1), 1);
        not(x, "no such crow", x.crow(2, 0), 2);
        not(x, "no such crow", x.crow(-1, 5), 2);
        not(x, "no such what", x.crow(1, 2), 5);
        not(x, "no such what", x.crow(1, -1), 5);
        promise = 16;
        x = of(RING);
        x.year(1);
        put(x, 0, 7, 7, 7, 7, 7, 7);
        fine(x, "how many", x.copyMoss(0), 5);
        long[] moss = {1, 3, 1, 0, 1, 7};
        for (int i = 0; i < 6; i++) {
            is("moss " + i, x.read(0, i), moss[i]);
        }
        x.open(1);
        x.copyMoss(0);
        is("of a stone carried off", x.read(0, 1), 0);
        not(x, "no such tray", x.copyMoss(4), 1);
        not(x, "no such tray", x.copyMoss(-1), 1);
        not(x, "missing", x.copyMoss(1), 3);
        put(x, 1, 8, 8, 8, 8);
        not(x, "too few", x.copyMoss(1), 4);
        is("nothing came", x.read(1, 0), 8);
    }

    // ---- promises 17 to 25

    private static void trials() {
        promise = 17;
        ParapetCourt x = of("stone a lenient 5 strong 2;stone b lenient 5 strong 1;stone c lenient 20;crow d on b for;");
        fine(x, "just two thirds", x.judge(7, 0, true), 0);
        is("c, b did not turn: b crumbled", x.many(8), 5);
        is("a stays", x.stone(0, 2), 2);
        is("c is weaker", x.stone(2, 2), 2);
        not(x, "the crow flew off", x.crow(0, 0), 8);
        fine(x, "half is not enough", x.judge(7, 0, false), 0);
        is("nothing was wrong", x.many(7), 1);
        fine(x, "at a gap", x.judge(99, 1, false), 0);
        fine(x, "at a gap, wrong", x.judge(7, 1, true), 0);
        is("c did not turn", x.stone(0, 2) * 10 + x.stone(2, 2), 21);
        fine(x, "at a gap all turn", x.judge(99, 1, true), 0);
        is("none went with it", x.stone(0, 2) * 10 + x.stone(2, 2), 21);
        fine(x, "condemned rightly", x.judge(99, 0, true), 1);
        fine(x, "condemned wrongly", x.judge(99, 0, false), 1);
        is("c crumbled", x.many(8), 1);
        is("counts", x.many(5) * 100 + x.many(6) * 10 + x.many(7), 724);
        not(x, "no such place", x.judge(100, 3, true), 2);
        not(x, "no such place", x.judge(0, -1, true), 2);
        not(x, "too guilty", x.judge(100, 0, true), 5);
        not(x, "below 0", x.judge(-1, 0, true), 5);
        is("counts stay", x.many(5), 7);
        x.judge(99, 0, false);
        is("all are gaps", x.many(1), 0);
        fine(x, "free then", x.judge(99, 0, true), 0);
        x = of("stone a lenient 0 strong 1;stone b lenient 0 strong 1;stone c lenient 0 strong 1;");
        x.judge(50, 0, false);
        is("all crumble at once", x.many(1), 0);
    }

    private static void years() {
        promise = 18;
        ParapetCourt x = of("stone a lenient 5 moss 7;gap;stone b lenient 5;");
        fine(x, "moss", x.year(1), 9);
        fine(x, "9 at most", x.year(3), 13);
        fine(x, "99", x.year(99), 18);
        not(x, "none", x.year(0), 5);
        not(x, "100", x.year(100), 5);
        not(x, "below 0", x.year(-1), 5);
        not(x, "far too many", x.year(Integer.MAX_VALUE), 5);
        is("year", x.many(4), 103);
        for (int i = 0; i < 99; i++) {
            x.year(99);
        }
        is("year", x.many(4), 9904);
        not(x, "above 9,999", x.year(96), 7);
        x.clear(0);
        fine(x, "to 9,999", x.year(95), 18);
        not(x, "one more", x.year(1), 7);
        is("the last year", x.many(4), 9999);
    }

    private static void stonesChanged() {
        promise = 19;
        ParapetCourt x = of(RING);
        fine(x, "what it was", x.carve(1, 30), 8);
        fine(x, "what it was", x.carve(1, 0), 30);
        is("moss stays", x.stone(1, 1), 2);
        not(x, "31", x.carve(1, 31), 5);
        not(x, "-1", x.carve(1, -1), 5);
        not(x, "a gap, a number", x.carve(3, 31), 5);
        not(x, "a gap", x.carve(3, 3), 8);
        not(x, "no such place", x.carve(5, 31), 2);
        not(x, "no such place", x.carve(-1, 3), 2);
        is("it stays", x.stone(1, 0), 0);
        promise = 20;
        fine(x, "what it was", x.clear(1), 2);
        is("none", x.stone(1, 1), 0);
        not(x, "without moss", x.clear(1), 8);
        not(x, "a gap", x.clear(3), 8);
        not(x, "no such place", x.clear(5), 2);
        not(x, "no such place", x.clear(-1), 2);
        promise = 21;
        x.hatch(0, true);
        fine(x, "carried off", x.open(0));
        is("a gap", x.many(8), 22);
        not(x, "its crow", x.crow(0, 0), 8);
        not(x, "its other crow", x.crow(2, 0), 8);
        fine(x, "another crow", x.crow(1, 0), 4);
        not(x, "it is a gap", x.open(0), 8);
        not(x, "no such place", x.open(5), 2);
        not(x, "no such place", x.open(-1), 2);
        promise = 22;
        fine(x, "a stone again", x.mend(0, 30, 9));
        is("its numbers", x.stone(0, 0) * 100 + x.stone(0, 1) * 10 + x.stone(0, 2), 3009);
        is("no crows on it", x.stone(0, 3), 0);
        is("no counsel on it", x.stone(0, 4), 30);
        fine(x, "a gap that was told", x.mend(3, 0, 1));
        is("all stones", x.many(8), 31);
        not(x, "it is a stone", x.mend(3, 0, 1), 9);
        not(x, "31", x.mend(3, 31, 1), 5);
        not(x, "-1", x.mend(3, -1, 1), 5);
        not(x, "strong 0", x.mend(3, 0, 0), 5);
        not(x, "strong 10", x.mend(3, 0, 10), 5);
        not(x, "no such place", x.mend(5, 31, 0), 2);
        x.year(9);
        x.open(3);
        x.mend(3, 4, 4);
        is("moss is 0", x.stone(3, 1), 0);
    }

    private static void crowsMoved() {
        promise = 23;
        ParapetCourt x = of(RING);
        fine(x, "from one", x.fly(0, 1), 1);
        is("counsel goes with it", x.stone(0, 4) * 100 + x.stone(1, 4), 507);
        not(x, "it is there", x.fly(0, 1), 9);
        not(x, "a gap", x.fly(0, 3), 8);
        not(x, "no such place", x.fly(0, 5), 2);
        not(x, "no such crow", x.fly(2, 3), 2);
        not(x, "no such crow", x.fly(-1, 0), 2);
        x.open(1);
        fine(x, "from none", x.fly(0, 2), 0);
        is("counsel", x.stone(2, 4), 0);
        is("sets", x.stone(2, 3), 1);
        x.mend(1, 8, 1);
        is("nothing is left of it", x.stone(1, 4), 8);
        promise = 24;
        fine(x, "for", x.hatch(2, true), 2);
        is("counsel", x.stone(2, 4), 3);
        not(x, "a gap", x.hatch(3, false), 8);
        fine(x, "against", x.hatch(2, false), 3);
        is("side", x.crow(3, 1), 0);
        is("on which", x.crow(3, 0), 2);
        is("all of them", x.stone(2, 3), 13);
        not(x, "a fifth", x.hatch(2, true), 7);
        not(x, "a fifth on a gap", x.hatch(3, true), 7);
        not(x, "no such place", x.hatch(5, true), 2);
        not(x, "no such place", x.hatch(-1, true), 2);
        is("many", x.many(2), 4);
        promise = 25;
        fine(x, "none", x.rule(0));
        is("odds", x.many(3), 0);
        fine(x, "all", x.rule(16));
        is("odds", x.many(3), 16);
        not(x, "17", x.rule(17), 5);
        not(x, "-1", x.rule(-1), 5);
        is("odds stay", x.many(3), 16);
    }

    // ---- promises 26 to 33

    private static void whoTurns() {
        promise = 26;
        ParapetCourt x = of(times("gap;", 9));
        int[] due = {0, 1, 2, 3, 4, 4, 3, 2, 1};
        for (int p = 0; p < 9; p++) {
            fine(x, "far", x.far(0, p), due[p]);
            fine(x, "far", x.far((p + 4) % 9, 4), due[p]);
        }
        is("of ten", of(times("gap;", 10)).far(2, 7), 5);
        is("of one", of("gap;").far(0, 0), 0);
        not(x, "no such place", x.far(9, 0), 2);
        not(x, "no such place", x.far(0, -1), 2);
        promise = 27;
        x = of(RING);
        fine(x, "against", x.mercy(0, 0), 2);
        fine(x, "far", x.mercy(0, 2), 4);
        fine(x, "for a gap", x.mercy(0, 3), 4);
        fine(x, "for", x.mercy(4, 0), 14);
        fine(x, "moss", x.mercy(1, 1), 10);
        x.carve(0, 0);
        fine(x, "below 0", x.mercy(0, 0), -3);
        fine(x, "-2", x.mercy(0, 1), -2);
        x.carve(0, 1);
        fine(x, "-1 that is no NONE", x.mercy(0, 1), -1);
        not(x, "a gap", x.mercy(3, 0), 8);
        not(x, "no such place", x.mercy(3, 5), 2);
        not(x, "no such stone", x.mercy(5, 0), 2);
        not(x, "no such stone", x.mercy(-1, 0), 2);
        promise = 28;
        x = of(RING);
        fine(x, "as much as mercy", x.turned(2, 0), 0);
        fine(x, "more than mercy", x.turned(3, 0), 1);
        fine(x, "all", x.turned(99, 3), 23);
        fine(x, "nobody", x.turned(0, 0), 0);
        x.carve(0, 0);
        fine(x, "from who is not guilty", x.turned(0, 0), 1);
        not(x, "too guilty", x.turned(100, 0), 5);
        not(x, "below 0", x.turned(-1, 0), 5);
        not(x, "no such place", x.turned(100, 5), 2);
        promise = 29;
        x = of("stone a lenient 5;stone b lenient 9;gap;stone c lenient 14;stone d lenient 20;");
        fine(x, "half", x.verdict(11, 0), 0);
        fine(x, "more than half", x.verdict(17, 0), 1);
        fine(x, "at a gap", x.verdict(99, 2), 0);
        x.open(4);
        fine(x, "more than half of those that are there", x.verdict(11, 0), 1);
        not(x, "too guilty", x.verdict(100, 0), 5);
        not(x, "below 0", x.verdict(-1, 0), 5);
        not(x, "no such place", x.verdict(-1, -1), 2);
        is("nobody was tried", x.many(5), 0);
        promise = 32;
        fine(x, "least", x.least(0), 11);
        not(x, "at a gap", x.least(2), 8);
        not(x, "no such place", x.least(5), 2);
        not(x, "no such place", x.least(-1), 2);
        x = of("stone a lenient 0;crow b on a against;");
        fine(x, "0", x.least(0), 0);
        x.fly(0, 0);
        x.carve(0, 3);
        fine(x, "1", x.least(0), 1);
        promise = 33;
        x = of("stone a lenient 5;stone b lenient 5 moss 6;gap;");
        fine(x, "now", x.freeIn(5, 0), 0);
        fine(x, "half is free", x.freeIn(12, 0), 0);
        fine(x, "by years", x.freeIn(13, 0), 1);
        fine(x, "by years", x.freeIn(14, 0), 2);
        fine(x, "9 at most", x.freeIn(15, 0), 3);
        not(x, "in none", x.freeIn(16, 0), 8);
        fine(x, "by the last year", x.freeIn(15, 1), 9);
        fine(x, "at a gap", x.freeIn(99, 2), 0);
        is("no year went by", x.many(4) + x.many(9), 6);
        x.open(1);
        fine(x, "nine years", x.freeIn(14, 0), 9);
        not(x, "ten", x.freeIn(15, 0), 8);
        not(x, "too guilty", x.freeIn(100, 0), 5);
        not(x, "no such place", x.freeIn(100, 3), 2);
    }

    private static void bestPlaces() {
        promise = 30;
        ParapetCourt x = of("gap;stone a lenient 5;stone b lenient 6;stone c lenient 5;gap;gap;");
        fine(x, "fewest: far from most", x.stand(6), 2);
        fine(x, "the first of several", x.stand(0), 1);
        not(x, "too guilty", x.stand(100), 5);
        not(x, "below 0", x.stand(-1), 5);
        promise = 31;
        fine(x, "most", x.fall(6), 1);
        fine(x, "the first of several", x.fall(99), 1);
        not(x, "too guilty", x.fall(100), 5);
        not(x, "below 0", x.fall(-1), 5);
        x = of("stone a lenient 9;stone b lenient 1;stone c lenient 9;stone d lenient 9;stone e lenient 9;stone f lenient 9;");
        fine(x, "the only one", x.fall(2), 1);
        promise = 30;
        fine(x, "the first beside it", x.stand(2), 0);
        x = of("gap;gap;");
        not(x, "no stones, a number", x.stand(100), 5);
        not(x, "no stones", x.stand(5), 8);
        promise = 31;
        not(x, "no stones, a number", x.fall(-1), 5);
        not(x, "no stones", x.fall(5), 8);
    }

    // ---- promises 34 to 38

    private static void fitting() {
        promise = 34;
        ParapetCourt x = of(RING);
        put(x, 0, 0, 2, 1, 0, 1, 0, 3, 4, 0);
        fine(x, "none told", x.fits(0, 0), 61);
        fine(x, "cob turned: above 5", x.fits(0, 1), 55);
        fine(x, "bay did not: to 11", x.fits(0, 2), 6);
        fine(x, "at a gap", x.fits(0, 3), 6);
        not(x, "no such tray", x.fits(4, 0), 1);
        not(x, "no such tray", x.fits(-1, -1), 1);
        not(x, "missing", x.fits(1, -1), 3);
        not(x, "too few", x.fits(0, 4), 4);
        not(x, "far too few", x.fits(0, Integer.MAX_VALUE), 4);
        not(x, "below 0", x.fits(0, -1), 5);
        not(x, "far below 0", x.fits(0, Integer.MIN_VALUE), 5);
        x.tray(2, 3, 60);
        for (int i = 0; i < 20; i++) {
            x.write(2, 3 * i + 2, 1);
        }
        fine(x, "twenty", x.fits(2, 20), 58);
        not(x, "21 are too few first", x.fits(2, 21), 4);
        long[][] bad = {{5, 0, 1}, {-1, 0, 1}, {0, 5, 1}, {0, 3, 1}, {0, -1, 0}, {0, 0, 2}, {0, 0, -1}, {1L << 32, 0, 1}, {0, 1L << 32, 1}, {0, 0, 1L << 32}};
        for (long[] three : bad) {
            put(x, 1, 0, 0, 1, three[0], three[1], three[2]);
            not(x, "a number in the tray", x.fits(1, 2), 5);
            fine(x, "that is not asked for", x.fits(1, 1), 58);
        }
        promise = 35;
        fine(x, "least", x.fitsBy(0, 2, 0), 6);
        fine(x, "greatest", x.fitsBy(0, 2, 1), 11);
        fine(x, "least of all", x.fitsBy(0, 0, 0), 0);
        fine(x, "greatest of all", x.fitsBy(0, 0, 1), 60);
        not(x, "no such what", x.fitsBy(0, 2, 2), 5);
        not(x, "no such what", x.fitsBy(0, 2, -1), 5);
        not(x, "too few first", x.fitsBy(0, 4, 2), 4);
        not(x, "missing", x.fitsBy(3, 0, 2), 3);
        not(x, "no such tray", x.fitsBy(4, 0, 2), 1);
        put(x, 1, 0, 2, 0, 0, 1, 1);
        fine(x, "none fit", x.fits(1, 2), 0);
        not(x, "there are none", x.fitsBy(1, 2, 0), 8);
        not(x, "there are none, no such what", x.fitsBy(1, 2, 2), 5);
        promise = 36;
        not(x, "there are none", x.ask(1, 2, 0), 8);
        put(x, 1, 0, 2, 1, 2, 1, 0, 0, 2, 0);
        not(x, "none", x.ask(1, 3, 0), 8);
        x.carve(1, 3);
        put(x, 1, 0, 2, 1, 0, 1, 0);
        fine(x, "one fits", x.fits(1, 2), 1);
        not(x, "one is too few", x.ask(1, 2, 1), 8);
        x.carve(1, 4);
        fine(x, "two fit", x.fits(1, 2), 2);
        fine(x, "parts them: where", x.ask(1, 2, 0), 1);
        fine(x, "parts them: who", x.ask(1, 2, 1), 1);
        x.carve(1, 30);
        put(x, 1, 0, 2, 1, 3, 4, 0, 0, 4, 0);
        x.carve(4, 3);
        fine(x, "two fit", x.fits(1, 3), 2);
        fine(x, "parts them: where", x.ask(1, 3, 0), 4);
        fine(x, "parts them: who", x.ask(1, 3, 1), 4);
        x = of(RING);
        put(x, 0, 0, 2, 1, 0, 1, 0);
        fine(x, "where", x.ask(0, 2, 0), 1);
        fine(x, "who", x.ask(0, 2, 1), 1);
        fine(x, "of all, where", x.ask(0, 0, 0), 1);
        fine(x, "of all, who", x.ask(0, 0, 1), 4);
        not(x, "no such what", x.ask(0, 2, 2), 5);
        not(x, "no such what", x.ask(0, 2, -1), 5);
        not(x, "too few first", x.ask(0, 3, 5), 4);
        not(x, "missing", x.ask(1, 0, 0), 3);
        not(x, "no such tray", x.ask(-1, 0, 0), 1);
        x = of("gap;");
        x.tray(0, 0, 0);
        not(x, "no stones", x.ask(0, 0, 0), 8);
        x = of("gap;gap;gap;stone a lenient 29;gap;gap;");
        x.tray(0, 0, 0);
        fine(x, "he may stand at a gap", x.ask(0, 0, 0), 2);
        fine(x, "the stone", x.ask(0, 0, 1), 3);
    }

    private static void cutting() {
        promise = 37;
        ParapetCourt x = of(RING);
        put(x, 0, 6, 0, 1, 6, 0, 0);
        fine(x, "none told", x.cuts(0, 0), 0);
        fine(x, "one", x.cuts(0, 1), 1);
        not(x, "both can't be", x.cuts(0, 2), 8);
        put(x, 0, 0, 0, 1, 99, 1, 1);
        fine(x, "three of four", x.cuts(0, 2), 3);
        promise = 38;
        int[] due = {0, 2, 2, 0, 2};
        for (int p = 0; p < 5; p++) {
            fine(x, "the first way", x.cutOf(0, 2, p), due[p]);
        }
        put(x, 0, 99, 0, 0, 99, 3, 0);
        int[] kind = {0, 0, 1, 0, 1};
        for (int p = 0; p < 5; p++) {
            fine(x, "the first way", x.cutOf(0, 2, p), kind[p]);
        }
        promise = 37;
        put(x, 0, 99, 3, 1);
        not(x, "condemned at a gap", x.cuts(0, 1), 8);
        put(x, 0, 99, 3, 0);
        fine(x, "free at a gap", x.cuts(0, 1), 0);
        not(x, "no such tray", x.cuts(4, 0), 1);
        not(x, "missing", x.cuts(1, 0), 3);
        not(x, "too few", x.cuts(0, 2), 4);
        not(x, "below 0", x.cuts(0, -1), 5);
        x.tray(1, 0, 21);
        not(x, "seven", x.cuts(1, 7), 5);
        fine(x, "six", x.cuts(1, 6), 0);
        x.tray(1, 0, 20);
        not(x, "seven of too few", x.cuts(1, 7), 4);
        long[][] bad = {{100, 0, 1}, {-1, 0, 1}, {0, 5, 1}, {0, -1, 1}, {0, 0, 2}, {0, 0, -1}, {1L << 32, 0, 1}, {0, 1L << 32, 1}, {0, 0, 1L << 32}};
        for (long[] three : bad) {
            put(x, 2, 0, 0, 0, three[0], three[1], three[2]);
            not(x, "a number in the tray", x.cuts(2, 2), 5);
            fine(x, "that is not asked for", x.cuts(2, 1), 0);
        }
        put(x, 2, 99, 3, 1, 100, 0, 1);
        not(x, "a number goes ahead of no way", x.cuts(2, 2), 5);
        promise = 38;
        put(x, 0, 6, 0, 1, 6, 0, 0);
        fine(x, "harsh", x.cutOf(0, 1, 4), 2);
        fine(x, "as it is", x.cutOf(0, 1, 0), 0);
        fine(x, "a gap", x.cutOf(0, 1, 3), 0);
        not(x, "no way", x.cutOf(0, 2, 0), 8);
        not(x, "no such tray", x.cutOf(4, 0, 5), 1);
        not(x, "no such place", x.cutOf(3, 0, 5), 2);
        not(x, "no such place", x.cutOf(0, 9, -1), 2);
        not(x, "missing", x.cutOf(3, 0, 0), 3);
        not(x, "too few", x.cutOf(0, 9, 0), 4);
        not(x, "below 0", x.cutOf(0, -1, 0), 5);
        is("nothing was cut", x.stone(4, 0), 10);
    }

    // ---- promises 39 to 45

    private static void windowed() {
        ParapetCourt x = of("stone a lenient 1;stone b lenient 9;stone c lenient 2;gap;stone d lenient 9;stone e lenient 3;");
        promise = 39;
        fine(x, "condemned: one turning less", x.windows(8, 2), 1);
        promise = 40;
        fine(x, "the lowest that turns and is another", x.windowSet(8, 2), 1);
        fine(x, "from the first itself", x.windowSet(8, 0), 4);
        promise = 39;
        fine(x, "free: those that do not turn", x.windows(5, 2), 2);
        fine(x, "one turns: all that do not", x.windows(4, 0), 4);
        promise = 40;
        fine(x, "the lowest that do not turn", x.windowSet(5, 2), 18);
        fine(x, "his own stone stays", x.windowSet(5, 1), 48);
        promise = 39;
        not(x, "nobody turns", x.windows(0, 0), 8);
        promise = 40;
        not(x, "nobody turns", x.windowSet(0, 0), 8);
        not(x, "at a gap", x.windowSet(99, 3), 9);
        not(x, "too guilty at a gap", x.windowSet(100, 3), 5);
        not(x, "no such place", x.windowSet(100, 6), 2);
        promise = 39;
        not(x, "at a gap", x.windows(99, 3), 9);
        not(x, "at a gap", x.windows(0, 3), 9);
        not(x, "below 0", x.windows(-1, 0), 5);
        not(x, "no such place", x.windows(0, -1), 2);
        is("nothing was carried off", x.many(1), 5);
        x = of("stone a lenient 1;");
        not(x, "his own stone stays", x.windows(50, 0), 8);
    }

    private static void walking() {
        ParapetCourt x = of("stone a lenient 1;stone b lenient 1;stone c lenient 1;stone d lenient 1;");
        promise = 41;
        fine(x, "one", x.walk(0, 1), 1);
        fine(x, "round", x.walk(0, 3), 1);
        fine(x, "both as long", x.walk(0, 2), 2);
        fine(x, "nowhere", x.walk(2, 2), 0);
        promise = 42;
        fine(x, "to higher numbers", x.walkAt(0, 2, 1), 1);
        fine(x, "behind the last", x.walkAt(3, 1, 1), 0);
        fine(x, "to lower ones", x.walkAt(0, 3, 1), 3);
        fine(x, "where it begins", x.walkAt(3, 1, 0), 3);
        fine(x, "where it ends", x.walkAt(3, 1, 2), 1);
        not(x, "no such step", x.walkAt(3, 1, 3), 8);
        not(x, "no such step", x.walkAt(3, 1, -1), 8);
        not(x, "no such step", x.walkAt(2, 2, 1), 8);
        not(x, "no such place", x.walkAt(4, 0, 9), 2);
        x.open(1);
        fine(x, "round the gap", x.walkAt(0, 2, 1), 3);
        promise = 41;
        fine(x, "round the gap", x.walk(0, 2), 2);
        not(x, "from a gap", x.walk(1, 2), 8);
        not(x, "to a gap", x.walk(2, 1), 8);
        not(x, "nowhere at a gap", x.walk(1, 1), 8);
        x.open(3);
        not(x, "by no way", x.walk(0, 2), 8);
        not(x, "no such place", x.walk(4, 0), 2);
        not(x, "no such place", x.walk(0, -1), 2);
        promise = 42;
        not(x, "by no way", x.walkAt(0, 2, 0), 8);
        x = of("stone a lenient 1;gap;stone b lenient 1;stone c lenient 1;stone d lenient 1;stone e lenient 1;");
        fine(x, "the long way", x.walkAt(0, 2, 3), 3);
        promise = 43;
        fine(x, "over the beginning", x.longest(), 5);
        x.open(4);
        fine(x, "two rows", x.longest(), 2);
        fine(x, "all", of("stone a lenient 1;stone b lenient 1;").longest(), 2);
        fine(x, "none", of("gap;").longest(), 0);
        x.stone(9, 9);
        x.longest();
        is("status", x.status(), 0);
    }

    private static void gaming() {
        promise = 44;
        // For guilt 10 at place 0: a turns by 1, b by 4, c not by 0, d not by 3 and e not by 2.
        ParapetCourt x = of("stone a lenient 9;stone b lenient 5;stone c lenient 8;stone d lenient 11;stone e lenient 11;");
        fine(x, "no turns", x.game(10, 0, 0), 2);
        fine(x, "one", x.game(10, 0, 1), 3);
        fine(x, "two", x.game(10, 0, 2), 2);
        fine(x, "three", x.game(10, 0, 3), 3);
        fine(x, "four", x.game(10, 0, 4), 3);
        not(x, "five", x.game(10, 0, 5), 5);
        not(x, "below 0", x.game(10, 0, -1), 5);
        not(x, "too guilty", x.game(100, 0, 1), 5);
        not(x, "no such place", x.game(100, 5, 9), 2);
        is("no crow was set", x.many(2), 0);
        promise = 45;
        fine(x, "one: the first that it makes turn", x.moveOf(10, 0, 1), 2);
        fine(x, "two: what FOR wants is as good", x.moveOf(10, 0, 2), 0);
        not(x, "no turns", x.moveOf(10, 0, 0), 5);
        not(x, "five", x.moveOf(10, 0, 5), 5);
        not(x, "no such place", x.moveOf(10, -1, 0), 2);
        x = of("gap;gap;stone a lenient 30;");
        fine(x, "as good as nothing", x.moveOf(1, 0, 4), 2);
        promise = 44;
        fine(x, "at a gap", x.game(1, 0, 4), 0);
        x = of("gap;");
        fine(x, "no stones", x.game(50, 0, 4), 0);
        promise = 45;
        not(x, "nothing", x.moveOf(50, 0, 4), 8);
    }

    private static void odds() {
        promise = 46;
        ParapetCourt x = of(RING);
        fraction(x, "condemned at three of four", x.lot(12, 0), 3, 4);
        fraction(x, "nowhere", x.lot(0, 0), 0, 1);
        fraction(x, "everywhere", x.lot(99, 0), 1, 1);
        fraction(x, "all turn", x.lot(99, 1), 4, 1);
        fraction(x, "on the mean", x.lot(5, 1), 3, 2);
        not(x, "too guilty", x.lot(100, 0), 5);
        not(x, "below 0", x.lot(-1, 0), 5);
        not(x, "no such what", x.lot(5, 2), 5);
        not(x, "no such what", x.lot(5, -1), 5);
        is("the fraction stays", x.top() * 10 + x.bottom(), 32);
        ParapetCourt y = of("gap;");
        not(y, "no stones", y.lot(5, 0), 8);
        not(y, "no stones, no such what", y.lot(5, 2), 5);
        promise = 47;
        fraction(x, "none or more", x.couples(0), 1, 1);
        fraction(x, "one or more", x.couples(1), 175, 256);
        fraction(x, "all four", x.couples(4), 1, 256);
        fraction(x, "five", x.couples(5), 0, 1);
        fraction(x, "ten", x.couples(10), 0, 1);
        not(x, "eleven", x.couples(11), 5);
        not(x, "below 0", x.couples(-1), 5);
        x.rule(5);
        fraction(x, "all four", x.couples(4), 625, 65536);
        x.rule(0);
        fraction(x, "never", x.couples(1), 0, 1);
        fraction(x, "none or more", x.couples(0), 1, 1);
        x.rule(16);
        fraction(x, "ever", x.couples(4), 1, 1);
        fraction(y, "no stones", y.couples(0), 1, 1);
        fraction(y, "no stones", y.couples(1), 0, 1);
        StringBuilder ten = new StringBuilder("odds 15;");
        for (char name = 'a'; name <= 'j'; name++) {
            ten.append("stone ").append(name).append(" lenient 1;");
        }
        ParapetCourt z = of(ten.toString());
        fraction(z, "ten stones", z.couples(10), 576650390625L, 1L << 40);
        z.rule(1);
        fraction(z, "ten stones", z.couples(10), 1, 1L << 40);
    }

    // ---- promises 48 to 52

    private static void living() {
        promise = 48;
        ParapetCourt x = of(RING, "year 2; try 30 0 1; try 30 0 0; kind ash; kind cob; harsh cob; clear bay; clear bay; fly rook ash; fly rook bay;");
        fine(x, "all steps, those MISSED, too", x.live(0), 10);
        promise = 49;
        // cob crumbles by the second try: it can't be cut; bay has no moss twice; rook is on ash.
        int[] due = {5, 2, 2, 1, 0};
        for (int what = 0; what < 5; what++) {
            fine(x, "lived(" + what + ")", x.lived(what), due[what]);
        }
        is("kind ash", x.stone(0, 0) * 10 + x.stone(0, 1), 300);
        is("fly", x.crow(0, 0), 1);
        is("year", x.many(4), 2);
        is("trials", x.many(5) * 100 + x.many(6) * 10 + x.many(7), 221);
        not(x, "no such what", x.lived(5), 5);
        not(x, "no such what", x.lived(-1), 5);
        ParapetCourt y = new ParapetCourt();
        not(y, "there was none", y.lived(0), 8);
        not(y, "no such what", y.lived(5), 5);
        promise = 48;
        not(y, "no terms", y.live(0), 8);
        not(y, "no such seed", y.live(10000), 5);
        not(y, "no such seed", y.live(-1), 5);
        fine(x, "the last seed", x.live(9999), 10);
        x.live(10000);
        promise = 49;
        fine(x, "of the latest that was fine", x.lived(1), 2);
        wall(x, "gap;");
        fine(x, "a wall does not change it", x.lived(1), 2);
        promise = 48;
        // s: 31700, 16371, 21432; by 8: 3962, 2046, 2679; by 16, 40, 3: 10, 6, 0.
        String abc = "stone b lenient 4;stone c lenient 30;";
        x = of("odds 11;stone a lenient 5;" + abc, "any;");
        x.live(7);
        is("he did: condemned rightly", x.lived(0) * 100 + x.lived(2) * 10 + x.lived(3), 10);
        x = of("odds 10;stone a lenient 5;" + abc, "any;");
        x.live(7);
        is("he did not: condemned wrongly", x.lived(0) * 100 + x.lived(2) * 10 + x.lived(3), 111);
        is("a, b are weaker", x.stone(0, 2) * 100 + x.stone(1, 2) * 10 + x.stone(2, 2), 223);
        x = of("odds 11;stone a lenient 6;" + abc, "any;");
        x.live(7);
        is("free wrongly", x.lived(0) * 100 + x.lived(2) * 10 + x.lived(3), 101);
        is("a, c are weaker", x.stone(0, 2) * 100 + x.stone(1, 2) * 10 + x.stone(2, 2), 232);
        x = of("", "any;any;");
        fine(x, "any without places", x.live(7), 2);
        is("is missed", x.lived(0), 2);
        is("nobody was tried", x.many(5), 0);
    }

    private static int lives(String wall, String terms, int what) {
        ParapetCourt x = of(wall, terms);
        int done = x.live(0);
        return what == -1 ? done : x.lived(what);
    }

    private static void livingEdges() {
        promise = 48;
        is("no steps", lives(RING, "", -1), 0);
        is("stop is one", lives(RING, "year 1;stop;year 1;", -1), 2);
        is("stop in blocks", lives(RING, "loop 5;when stands ash;stop;end;end;year 1;", -1), 3);
        is("a loop is one", lives(RING, "loop 5;year 1;end;", -1), 6);
        is("years", lives(RING, "loop 5;year 1;end;", 1), 5);
        is("an inner loop is one each time", lives(RING, "loop 5;loop 3;year 1;end;end;", -1), 21);
        is("an empty loop", lives(RING, "loop 99;loop 99;end;end;year 3;", -1), 101);
        is("a when that does not hold", lives(RING, "when stands cob;year 1;end;when turns cob 0 5;year 1;end;", -1), 3);
        is("turns", lives(RING, "when turns cob 0 6;year 1;end;", -1), 2);
        is("does not turn by as much as mercy", lives(RING, "when turns cob 0 5;year 1;end;", -1), 1);
        is("moss below", lives(RING, "when moss bay < 3;year 1;end;", -1), 2);
        is("moss not below", lives(RING, "when moss bay < 2;year 1;end;", -1), 1);
        is("moss above", lives(RING, "when moss bay > 1;year 1;end;", -1), 2);
        is("moss not above", lives(RING, "when moss bay > 2;year 1;end;", -1), 1);
        is("moss as told", lives(RING, "when moss bay = 2;year 1;end;", -1), 2);
        is("moss not as told", lives(RING, "when moss bay = 1;year 1;end;", -1), 1);
        is("of a gap moss is 0", lives(RING, "try 99 0 0;when moss cob = 0;year 1;end;", -1), 3);
        is("a gap turns from nobody", lives(RING, "try 99 0 0;when turns cob 0 99;year 1;end;", -1), 2);
        is("a gap does not stand", lives(RING, "try 99 0 0;when stands cob;year 1;end;", -1), 2);
        is("moss", lives(RING, "when moss bay = 2;year 1;end;when moss bay < 3;year 1;end;when moss bay > 3;year 1;end;", -1), 4);
        is("moss", lives(RING, "when moss bay = 3;year 1;end;when moss bay < 2;year 1;end;when moss bay > 1;year 1;end;", -1), 4);
        is("300", lives(RING, "loop 99;any;any;clear ash;end;year 1;year 2;year 3;", -1), 300);
        promise = 49;
        is("a step was left", lives(RING, "loop 99;any;any;clear ash;end;year 1;year 2;year 3;", 4), 1);
        is("none was left", lives(RING, "loop 99;any;any;clear ash;end;year 1;year 2;", 4), 0);
        is("an end is none", lives(RING, "loop 98;any;any;clear ash;end;loop 4;year 1;end;", 4), 0);
        is("of a loop that goes on", lives(RING, "loop 98;any;any;clear ash;end;loop 5;year 1;end;", 4), 1);
        is("a stop is one", lives(RING, "loop 99;any;any;clear ash;end;year 1;year 2;stop;", 4), 1);
        is("behind a stop none is left", lives(RING, "loop 9;stop;end;", 4), 0);
        is("a wrong try is missed", lives(RING, "try 0 0 1;try 0 0 0;try 99 0 1;", 0), 1);
        is("a fly to a gap", lives(RING, "try 99 0 0;fly jay cob;", 0), 2);
        is("clear of a gap", lives(RING, "try 99 0 0;clear cob;", 0), 2);
        ParapetCourt x = of(RING, "year 20;year 10;");
        for (int i = 0; i < 101; i++) {
            x.year(99);
        }
        x.live(0);
        is("years beyond 9,999", x.lived(0), 2);
        x = of(RING, "try 99 0 1;try 99 0 0;when stands ash;end;");
        x.live(0);
        x.live(1);
        is("of the latest life alone", x.lived(0) * 100 + x.lived(2) * 10 + x.lived(3), 121);
        x = of(RING, "year 20;loop 99;loop 3;year 20;end;end;");
        x.live(0);
        x.live(0);
        is("years", x.lived(1), x.many(4) / 2);
        promise = 48;
        x = of(RING, "harsh bay;harsh dun;");
        x.year(4);
        x.live(0);
        is("harsh", x.stone(1, 0) + x.stone(1, 1) + x.stone(4, 0) + x.stone(4, 1), 0);
    }

    private static void means() {
        promise = 50;
        ParapetCourt x = of("odds 0;stone a lenient 0 strong 1;stone b lenient 20 strong 1;", "any;any;");
        long sum = 0;
        for (int seed = 30; seed < 50; seed++) {
            ParapetCourt y = of("odds 0;stone a lenient 0 strong 1;stone b lenient 20 strong 1;", "any;any;");
            y.live(seed);
            sum += y.many(1);
        }
        fine(x, "mean", x.mean(30, 20));
        is("as by live()", x.top() * 20, sum * x.bottom());
        is("all stays", x.many(1) * 10 + x.many(5), 20);
        not(x, "nothing was lived", x.lived(0), 8);
        ParapetCourt one = of("stone a lenient 0 strong 2;gap;stone b lenient 30;", "try 99 0 0;try 99 0 0;");
        fraction(one, "by one seed", one.mean(7, 1), 1, 1);
        not(x, "no seeds", x.mean(0, 0), 5);
        not(x, "21", x.mean(0, 21), 5);
        not(x, "below 0", x.mean(-1, 1), 5);
        not(x, "the last above 9,999", x.mean(9981, 20), 5);
        fine(x, "the last is 9,999", x.mean(9980, 20));
        fine(x, "9,999 alone", x.mean(9999, 1));
        for (int odd : ODD_NUMBERS) {
            not(x, "an odd number", x.mean(0, odd), 5);
        }
        not(x, "a far seed", x.mean(Integer.MAX_VALUE, 20), 5);
        not(x, "a far seed", x.mean(Integer.MIN_VALUE, 1), 5);
        ParapetCourt y = of(RING);
        not(y, "no terms", y.mean(0, 1), 8);
        not(y, "no terms, a number", y.mean(0, 0), 5);
        y = of("gap;", "any;");
        fraction(y, "no stones", y.mean(0, 3), 0, 1);
    }

    private static void marking() {
        promise = 51;
        ParapetCourt x = of(RING, "year 1;");
        fine(x, "one", x.mark(), 1);
        x.open(0);
        fine(x, "two", x.mark(), 2);
        wall(x, "odds 3;gap;");
        fine(x, "three", x.mark(), 3);
        not(x, "four", x.mark(), 7);
        promise = 52;
        x.rule(9);
        x.year(50);
        fine(x, "two left", x.back(), 2);
        is("the new wall", x.many(0) * 1000 + x.many(3) * 100 + x.many(4), 1300);
        not(x, "without terms", x.live(0), 8);
        put(x, 0, 5);
        x.couples(0);
        fine(x, "one left", x.back(), 1);
        is("the old wall, one stone less", x.many(8), 22);
        not(x, "rook is on none", x.crow(0, 0), 8);
        fine(x, "with its terms", x.live(0), 1);
        is("trays stay", x.read(0, 0), 5);
        is("the fraction stays", x.top(), 1);
        x.hatch(1, true);
        x.judge(12, 1, false);
        x.carve(1, 30);
        x.clear(4);
        terms(x, "stop;stop;");
        fine(x, "none left", x.back(), 0);
        is("the first wall", x.many(8) * 100 + x.many(2) * 10 + x.many(5), 2320);
        is("its stones", x.stone(1, 0) * 100 + x.stone(1, 1) * 10 + x.stone(2, 2), 821);
        is("its crows", x.crow(0, 0) * 10 + x.crow(1, 0), 4);
        is("its year", x.many(4), 0);
        fine(x, "its terms", x.live(0), 1);
        fine(x, "its names", terms(x, "kind ash;fly rook dun;"), 2);
        is("lived stays told", x.lived(1), 1);
        not(x, "none", x.back(), 8);
        promise = 51;
        fine(x, "one again", x.mark(), 1);
    }
}
