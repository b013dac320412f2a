/** The sentences of the document that name a boundary case of the TEXTS: promises 9 to 12, "==== 1." and "==== 4.". */
public final class TextBoundTests extends Checks {
    private static final String WORDS = "odds stone lenient moss strong gap crow on for against year try kind harsh clear fly any when"
        + " turns stands loop end stop";
    private static final String CROWS = "crow r on a for;crow s on a against;crow t on a for;crow u on a for;";

    public static void main(String[] args) {
        tapeFills();
        bytesOfTheTape();
        firstBytesAlone();
        whichBytesBeginATokenOrAreBlanks();
        tokensGoAsLongAsTheyCan();
        numbersOfDigits();
        namesOfLetters();
        namesThatAreWords();
        numbersOfTheWall();
        orderOfTheStonesParts();
        oddsOnce();
        tenPlacesFourCrows();
        namesOfOneThing();
        whatIsToldAhead();
        firstFaultOfSeveral();
        theEnd();
        newWall();
        termsOfThreeHundredBytes();
        thirtySteps();
        withinThreeOthers();
        endsAndBeginnings();
        numbersOfTheTerms();
        numbersOfTheTermsByPlaces();
        namesOfTheTerms();
        faultsThatAreTold();
        end("all bounds of the texts hold");
    }

    private static void wallIs(String text, int places) {
        ParapetCourt x = new ParapetCourt();
        fine(x, text, wall(x, text), places);
        is(text + ": fault(0)", x.fault(0), 0);
        is(text + ": fault(1)", x.fault(1), -1);
    }

    private static void wallFails(String text, int kind, int place) {
        ParapetCourt x = new ParapetCourt();
        not(x, text, wall(x, text), 10);
        is(text + ": fault(0)", x.fault(0), kind);
        is(text + ": fault(1)", x.fault(1), place);
        is(text + ": the old one stays", x.many(0) + x.many(2), 0);
        is(text + ": its ODDS, too", x.many(3), 8);
    }

    private static void termsAre(String text, int steps) {
        ParapetCourt x = of(RING);
        fine(x, text, terms(x, text), steps);
        is(text + ": fault(0)", x.fault(0), 0);
        is(text + ": fault(1)", x.fault(1), -1);
    }

    private static void termsFail(String text, int kind, int place) {
        ParapetCourt x = of(RING);
        not(x, text, terms(x, text), 10);
        is(text + ": fault(0)", x.fault(0), kind);
        is(text + ": fault(1)", x.fault(1), place);
        not(x, text + ": none are there", x.live(0), 8);
    }

    // ---- promise 9

    private static void tapeFills() {
        sentence(9, "how many it has; NONE if there would be more than 900");
        ParapetCourt x = new ParapetCourt();
        for (int i = 1; i < 45; i++) {
            is("feed " + i, x.feed(0x20202020, 0x20202020, 0x20202020, 0x20202020, 0x20202020), 20 * i);
        }
        is("the last that is free", x.feed(0x20202020, 0x20202020, 0x20202020, 0x20202020, 0x6761703B), 900);
        is("one more", x.feed(0x3F3F3F3F, 0, 0, 0, 0), -1);
        is("and one more", x.feed(0x3F3F3F3F, 0, 0, 0, 0), -1);
        not(x, "901", x.wall(901), 5);
        fine(x, "900 bytes, the last PART at their end", x.wall(900), 1);
        is("the tape is empty then", x.feed(0, 0, 0, 0, 0), 20);
    }

    private static void bytesOfTheTape() {
        sentence(9, "Twenty bytes come behind those on the tape, the highest of each int first");
        ParapetCourt x = new ParapetCourt();
        x.feed(0x67617020, 0x3B676170, 0x203B6761, 0x70203B67, 0x6170203B);
        is("behind", x.feed(0x6F646473, 0x2031363B, 0x20202020, 0x20202020, 0x67617020), 40);
        is("behind", x.feed(0x3B202020, 0x20202020, 0x20202020, 0x20202020, 0x20202020), 60);
        fine(x, "a PART over two feeds", x.wall(60), 5);
        is("ODDS", x.many(3), 16);
        x.feed(0x676170FF, 0, 0, 0, 0);
        not(x, "a byte of 255", x.wall(4), 10);
        is("no TOKEN begins so", x.fault(0) * 100 + x.fault(1), 103);
        x.feed(0x67617080, 0, 0, 0, 0);
        not(x, "a byte of 128", x.wall(4), 10);
        is("no TOKEN begins so", x.fault(0) * 100 + x.fault(1), 103);
    }

    private static void firstBytesAlone() {
        sentence(10, "The first n bytes of the tape (which is empty then)");
        String text = "odds 16;gap;";
        ParapetCourt x = new ParapetCourt();
        feedText(x, text);
        fine(x, "those behind are gone", x.wall(8), 0);
        is("ODDS", x.many(3), 16);
        not(x, "empty", x.wall(1), 5);
        fine(x, "no bytes of an empty tape", x.wall(0), 0);
        int[] kinds = {0, 2, 2, 2, 2, 2, 2, 2, 0, 2, 2, 2, 0};
        for (int n = 0; n <= text.length(); n++) {
            x = new ParapetCourt();
            feedText(x, text);
            x.wall(n);
            is(n + " bytes: STATUS", x.status(), kinds[n] == 0 ? 0 : 10);
            is(n + " bytes: the FAULT", x.fault(0), kinds[n]);
            // A WORD that is cut can't stand where it begins; else the text's end can't.
            int place = n < 4 ? 0 : n == 9 || n == 10 ? 8 : n;
            is(n + " bytes: its place", x.fault(1), kinds[n] == 0 ? -1 : place);
        }
    }

    // ---- TOKENS

    private static void whichBytesBeginATokenOrAreBlanks() {
        sentence(12, "1 no TOKEN begins so; blanks (10, 32)");
        for (int b = 0; b < 256; b++) {
            boolean isBlank = b == 10 || b == 32;
            boolean isToken = b >= 'a' && b <= 'z' || b >= '0' && b <= '9' || b == ';' || b == '<' || b == '>' || b == '=';
            ParapetCourt x = new ParapetCourt();
            x.feed(0x67617000 | b, 0x3B000000, 0, 0, 0);
            x.wall(5);
            if (isBlank) {
                is("byte " + b, x.status(), 0);
            } else if (b == ';') {
                is("byte " + b, x.fault(0) * 100 + x.fault(1), 204);
            } else if (b >= 'a' && b <= 'z') {
                is("byte " + b, x.fault(0) * 100 + x.fault(1), 200);
            } else {
                is("byte " + b, x.fault(0) * 100 + x.fault(1), isToken ? 203 : 103);
            }
        }
    }

    private static void tokensGoAsLongAsTheyCan() {
        sentence(12, "TOKENS, as long as they go, between them blanks");
        wallFails("gapgap;", 2, 0);
        wallFails("odds 1 6;", 2, 7);
        wallIs("odds 16;", 0);
        wallFails("od ds 16;", 2, 0);
        wallFails("oddsx 16;", 2, 0);
        wallIs("odds\n16\n;\n", 0);
        wallIs("  \n\n  gap  \n ;  ", 1);
        wallIs("gap;gap;", 2);
        wallIs("", 0);
        wallIs(" \n", 0);
        termsAre("when moss ash>4;end;", 1);
        termsFail("when moss ash>=4;end;", 2, 14);
        termsFail("when moss ash<>4;end;", 2, 14);
    }

    private static void numbersOfDigits() {
        sentence(12, "NUMBERS (1 to 4 digits); a NUMBER of 5 digits and more: at its first");
        wallIs("odds 7;", 0);
        wallIs("odds 07;", 0);
        wallIs("odds 007;", 0);
        wallIs("odds 0007;", 0);
        wallFails("odds 00007;", 1, 5);
        wallFails("odds 000000000000007;", 1, 5);
        wallFails("odds 9999;", 4, 5);
        wallFails("odds 10000;", 1, 5);
        wallFails("odds 4294967304;", 1, 5);
        sentence(12, "of one TOKEN the least kind");
        wallFails("gap 10000;", 1, 4);
        wallFails("gap 9999;", 2, 4);
        wallFails("10000;", 1, 0);
        wallFails("9999;", 2, 0);
        termsFail("kind 10000;", 1, 5);
        termsFail("kind 1000;", 2, 5);
        termsFail("year 10000;", 1, 5);
        termsFail("year 9999;", 4, 5);
    }

    private static void namesOfLetters() {
        sentence(12, "NAME: a WORD of 1 to 8 letters; a WORD of 9 letters and more where a NAME must stand: 2");
        wallIs("stone a lenient 1;", 1);
        wallIs("stone z lenient 1;", 1);
        wallIs("stone abcdefgh lenient 1;", 1);
        wallIs("stone zzzzzzzz lenient 1;", 1);
        wallFails("stone abcdefghi lenient 1;", 2, 6);
        wallFails("stone zzzzzzzzz lenient 1;", 2, 6);
        wallFails("stone aaaaaaaaaaaaaaaaaaaaaaaaaaaaaaaaaaaaaaaa lenient 1;", 2, 6);
        wallFails("stone ; lenient 1;", 2, 6);
        wallIs("stone a lenient 1;crow abcdefgh on a for;", 1);
        wallFails("stone a lenient 1;crow abcdefghi on a for;", 2, 23);
        wallFails("stone abcdefgh lenient 1;crow b on abcdefghi for;", 2, 35);
        wallIs("stone abcdefgh lenient 1;stone abcdefgg lenient 1;stone abcdefg lenient 1;stone bbcdefgh lenient 1;", 4);
        termsFail("kind abcdefghi;", 2, 5);
        termsFail("kind abcdefgh;", 3, 5);
        termsFail("fly abcdefghi ash;", 2, 4);
        termsFail("fly rook abcdefghi;", 2, 9);
        termsFail("when stands abcdefghi;end;", 2, 12);
    }

    private static void namesThatAreWords() {
        sentence(12, "that is none of odds, stone, .. stop");
        for (String word : WORDS.split(" ")) {
            wallFails("stone " + word + " lenient 1;", 2, 6);
            wallFails("stone a lenient 1;crow " + word + " on a for;", 2, 23);
            wallFails("stone a lenient 1;crow b on " + word + " for;", 2, 28);
            termsFail("kind " + word + ";", 2, 5);
            termsFail("fly " + word + " ash;", 2, 4);
            termsFail("fly rook " + word + ";", 2, 9);
            if (word.length() < 8) {
                wallIs("stone " + word + "x lenient 1;", 1);
            }
            wallIs("stone " + word.substring(1) + " lenient 1;", 1);
        }
    }

    // ---- a WALL

    private static void bound(String ahead, String behind, int low, int high) {
        int at = ahead.length();
        if (low > 0) {
            wallFails(ahead + (low - 1) + behind, 4, at);
        }
        wallIs(ahead + low + behind, ahead.startsWith("odds") ? 0 : 1);
        wallIs(ahead + high + behind, ahead.startsWith("odds") ? 0 : 1);
        wallFails(ahead + (high + 1) + behind, 4, at);
        wallFails(ahead + 9999 + behind, 4, at);
    }

    private static void numbersOfTheWall() {
        sentence(10, "ODDS (0 to 16; 8 without)");
        bound("odds ", ";", 0, 16);
        is("without", of("gap;").many(3), 8);
        is("0", of("odds 0;").many(3), 0);
        is("16", of("odds 16;").many(3), 16);
        sentence(10, "LENIENT (0 to 30)");
        bound("stone a lenient ", ";", 0, 30);
        is("0", of("stone a lenient 0;").stone(0, 0), 0);
        is("30", of("stone a lenient 30;").stone(0, 0), 30);
        wallFails("stone a;", 2, 7);
        sentence(10, "MOSS (0 to 9; 0 without)");
        bound("stone a lenient 5 moss ", ";", 0, 9);
        is("without", of("stone a lenient 5;").stone(0, 1), 0);
        is("0", of("stone a lenient 5 moss 0;").stone(0, 1), 0);
        is("9", of("stone a lenient 5 moss 9;").stone(0, 1), 9);
        sentence(10, "STRENGTH (1 to 9; 3 without)");
        bound("stone a lenient 5 strong ", ";", 1, 9);
        bound("stone a lenient 5 moss 9 strong ", ";", 1, 9);
        is("without", of("stone a lenient 5;").stone(0, 2), 3);
        is("1", of("stone a lenient 5 strong 1;").stone(0, 2), 1);
        is("9", of("stone a lenient 5 strong 9;").stone(0, 2), 9);
    }

    private static void orderOfTheStonesParts() {
        sentence(12, "[ ] perhaps: moss, then strong, each once");
        wallIs("stone a lenient 5 moss 1 strong 1;", 1);
        wallFails("stone a lenient 5 strong 1 moss 1;", 2, 27);
        wallFails("stone a lenient 5 moss 1 moss 1;", 2, 25);
        wallFails("stone a lenient 5 strong 1 strong 1;", 2, 27);
        wallFails("stone a moss 1 lenient 5;", 2, 8);
        wallFails("stone a lenient 5 lenient 5;", 2, 18);
        wallFails("stone a lenient 5 moss strong 1;", 2, 23);
        wallFails("stone a lenient 5 moss 1 strong;", 2, 31);
    }

    private static void oddsOnce() {
        sentence(12, "5 odds told already (at that WORD)");
        wallIs("odds 3;", 0);
        wallFails("odds 3;odds 3;", 5, 7);
        wallFails("odds 3; gap; odds 4;", 5, 13);
        wallFails("odds 3;odds", 5, 7);
        wallFails("odds 3;odds 99999;", 5, 7);
        ParapetCourt x = of("odds 3;");
        fine(x, "told anew in another WALL", wall(x, "odds 4;"), 0);
        is("ODDS", x.many(3), 4);
        fine(x, "8 in one without", wall(x, "gap;"), 1);
        is("ODDS", x.many(3), 8);
    }

    private static void tenPlacesFourCrows() {
        sentence(12, "6 an 11th stone or gap (at that WORD)");
        wallIs(times("gap;", 10), 10);
        wallIs(stones(10, "lenient 1"), 10);
        wallIs(times("gap;", 9) + "stone a lenient 1;", 10);
        wallFails(times("gap;", 11), 6, 40);
        wallFails(times("gap;", 10) + "gap", 6, 40);
        wallFails(times("gap;", 10) + "stone a lenient 1;", 6, 40);
        wallFails(times("gap;", 10) + "stone odds lenient 99;", 6, 40);
        wallFails(stones(10, "lenient 1") + "stone", 6, 180);
        wallFails(stones(10, "lenient 1") + "  gap ?", 6, 182);
        wallIs(times("gap;", 10) + "odds 3;", 10);
        sentence(12, "6 a fifth crow (at that WORD)");
        wallIs("stone a lenient 1;" + CROWS, 1);
        wallFails("stone a lenient 1;" + CROWS + "crow v on a for;", 6, 18 + CROWS.length());
        wallFails("stone a lenient 1;" + CROWS + "crow", 6, 18 + CROWS.length());
        wallFails("stone a lenient 1;" + CROWS + "crow r on q for;", 6, 18 + CROWS.length());
        wallIs("stone a lenient 1;" + CROWS + "gap;", 2);
        ParapetCourt x = of("stone a lenient 1;" + CROWS + stones(10, "lenient 1").substring(18));
        is("all of them", x.many(0) * 10 + x.many(2), 104);
        is("several may be on one", x.stone(0, 3), 15);
        is("numbered as they stand", x.crow(0, 1) * 1000 + x.crow(1, 1) * 100 + x.crow(2, 1) * 10 + x.crow(3, 1), 1011);
    }

    private static void namesOfOneThing() {
        sentence(12, "3 a new NAME that is taken; a NAME that is no STONE told ahead");
        wallFails("stone a lenient 1;stone a lenient 2;", 3, 24);
        wallFails("stone a lenient 1;crow a on a for;", 3, 23);
        wallFails("stone a lenient 1;crow b on a for;crow b on a for;", 3, 39);
        wallFails("stone a lenient 1;crow b on a for;stone b lenient 1;", 3, 40);
        wallFails("stone a lenient 1;crow b on a for;crow c on b for;", 3, 44);
        wallFails("stone a lenient 1;crow b on b for;", 3, 28);
        wallFails("stone a lenient 1;crow b on c for;stone c lenient 1;", 3, 28);
        wallIs("stone a lenient 1;stone c lenient 1;crow b on c for;", 2);
        wallIs("stone a lenient 1;stone aa lenient 1;crow aaa on aa for;", 2);
        ParapetCourt x = of("stone a lenient 1;crow b on a for;");
        fine(x, "NAMES are free again in another WALL", wall(x, "stone b lenient 1;crow a on b for;"), 1);
    }

    private static void whatIsToldAhead() {
        sentence(12, "SIDE: for or against");
        wallIs("stone a lenient 1;crow b on a for;", 1);
        wallIs("stone a lenient 1;crow b on a against;", 1);
        wallFails("stone a lenient 1;crow b on a;", 2, 29);
        wallFails("stone a lenient 1;crow b on a against for;", 2, 38);
        wallFails("stone a lenient 1;crow b a for;", 2, 25);
        wallFails("stone a lenient 1;crow on a for;", 2, 23);
    }

    private static void firstFaultOfSeveral() {
        sentence(12, "the first along the text");
        wallFails("gap gap ?", 2, 4);
        wallFails("gap ? gap", 1, 4);
        wallFails("odds 17 17", 4, 5);
        wallFails("odds 17;?", 4, 5);
        wallFails("stone a lenient 31 moss 10 strong 0", 4, 16);
        wallFails("stone a lenient 30 moss 10 strong 0", 4, 24);
        wallFails("stone a lenient 30 moss 9 strong 0", 4, 33);
        wallFails("stone a lenient 30 moss 9 strong 9", 2, 34);
        termsFail("year 21; year 0", 4, 5);
        termsFail("try 100 9 9;", 4, 4);
        termsFail("try 99 9 9;", 4, 7);
        termsFail("try 99 4 9;", 4, 9);
        termsFail("fly ash rook;", 3, 4);
        termsFail("fly rook rook;", 3, 9);
    }

    private static void theEnd() {
        sentence(12, "2 it can't stand there (the end: the text's length)");
        wallFails("gap", 2, 3);
        wallFails("gap ", 2, 4);
        wallFails("gap\n\n\n", 2, 6);
        wallFails("odds", 2, 4);
        wallFails("odds 4  ", 2, 8);
        wallFails("stone", 2, 5);
        wallFails("stone a lenient 5 moss   ", 2, 25);
        termsFail("year", 2, 4);
        termsFail("year 1   ", 2, 9);
        termsFail("loop 1;", 2, 7);
        termsFail("loop 1;end", 2, 10);
        termsFail("when stands ash; any;   ", 2, 24);
        ParapetCourt x = new ParapetCourt();
        feedText(x, "gap;gap;gap;gap;gap;");
        not(x, "the first 7 bytes", x.wall(7), 10);
        is("their length, not the tape's", x.fault(0) * 100 + x.fault(1), 207);
    }

    private static void newWall() {
        sentence(10, "A WALL that is taken is there in place of that ahead; it is YEAR 0, nobody was TRIED; there are no TERMS");
        ParapetCourt x = of(RING, "year 1;");
        x.judge(12, 0, false);
        x.year(99);
        x.hatch(0, true);
        x.open(1);
        fine(x, "a WALL of no PLACES", wall(x, ""), 0);
        for (int what = 0; what < 10; what++) {
            fine(x, "many(" + what + ")", x.many(what), what == 3 ? 8 : 0);
        }
        not(x, "no TERMS", x.live(0), 8);
        not(x, "no TERMS", x.mean(0, 1), 8);
        wall(x, "stone a lenient 9 moss 9;crow b on a for;");
        fine(x, "a GAP where a mossy STONE was", wall(x, "gap;"), 1);
        is("no MOSS", x.many(9), 0);
        x.mend(0, 4, 1);
        is("no MOSS, no CROWS", x.stone(0, 1) * 100 + x.stone(0, 3) * 10 + x.stone(0, 4), 4);
        fine(x, "the first anew", wall(x, RING), 5);
        is("nothing is left of what became of it", x.many(8) * 1000 + x.many(2) * 100 + x.many(9) * 10 + x.many(4), 23220);
        not(x, "no TERMS", x.live(0), 8);
    }

    // ---- TERMS

    private static void termsOfThreeHundredBytes() {
        sentence(11, "TERMS are a TEXT of at most 300 bytes (5: above 300, too)");
        String text = "year 1;" + times(" ", 288) + "stop;";
        termsAre(text, 2);
        ParapetCourt x = of(RING);
        feedText(x, times(" ", 296) + "stop;");
        not(x, "301", x.terms(301), 5);
        not(x, "the first 300: a stop without its end", x.terms(300), 10);
        is("at the text's length", x.fault(0) * 1000 + x.fault(1), 2300);
        sentence(11, "TERMS of no STEPS are TERMS; none are none");
        x = new ParapetCourt();
        not(x, "none at first", x.live(0), 8);
        fine(x, "of no bytes", x.terms(0), 0);
        fine(x, "lived", x.live(0), 0);
        is("a FAULT", x.fault(0), 0);
        fine(x, "of blanks", terms(x, " \n "), 0);
        fine(x, "lived", x.live(0), 0);
    }

    private static void thirtySteps() {
        sentence(11, "6 a 31st STEP (at its WORD; end is none)");
        termsAre(times("any;", 29), 29);
        termsAre(times("any;", 30), 30);
        termsFail(times("any;", 31), 6, 120);
        termsFail(times("any;", 30) + "any", 6, 120);
        termsFail(times("any;", 30) + "year 21;", 6, 120);
        termsFail(times("any;", 30) + "\n stop ?", 6, 122);
        termsAre(times("loop 1;end;", 27), 27);
        termsAre("loop 1;" + times("any;", 29) + "end;", 30);
        termsFail("loop 1;" + times("any;", 30) + "end;", 6, 123);
        termsAre("loop 1;loop 1;loop 1;" + times("any;", 27) + "end;end;end;", 30);
        termsFail("loop 1;loop 1;loop 1;" + times("any;", 27) + "end;end;end;any;", 6, 141);
        termsFail(times("any;", 30) + "moss;", 2, 120);
        termsFail(times("any;", 30) + "end;", 2, 120);
        sentence(11, "of one TOKEN the least kind: 6 ahead of 7");
        termsFail("loop 1;loop 1;loop 1;" + times("any;", 27) + "loop 1;", 6, 129);
        termsFail("loop 1;loop 1;loop 1;" + times("any;", 26) + "loop 1;", 7, 125);
    }

    private static void withinThreeOthers() {
        sentence(11, "7 a when, loop within three others (at its WORD)");
        String deep = "loop 1;loop 1;loop 1;";
        String ends = "end;end;end;";
        termsAre("loop 1;" + "end;", 1);
        termsAre("loop 1;loop 1;" + "end;end;", 2);
        termsAre(deep + ends, 3);
        termsAre(deep + "any;" + ends, 4);
        termsFail(deep + "loop 1;end;" + ends, 7, 21);
        termsFail(deep + "when stands ash;end;" + ends, 7, 21);
        termsFail(deep + "loop", 7, 21);
        termsFail(deep + "when ?", 7, 21);
        termsFail(deep + " loop 0;", 7, 22);
        termsAre(deep + "end;loop 1;" + ends, 4);
        termsAre(deep + ends + deep + ends, 6);
        termsFail(deep + "end;loop 1;loop 1;" + ends, 7, 32);
        String whens = "when stands ash;when moss ash > 1;when turns ash 0 0;";
        termsAre(whens + ends, 3);
        termsFail(whens + "when stands ash;", 7, whens.length());
        termsFail(whens + "loop 1;", 7, whens.length());
    }

    private static void endsAndBeginnings() {
        sentence(11, "an end without a beginning; the text's end ahead of an end: 2");
        termsFail("end;", 2, 0);
        termsFail("any;end;", 2, 4);
        termsFail("loop 1;end;end;", 2, 11);
        termsFail("loop 1;", 2, 7);
        termsFail("loop 1;loop 1;end;", 2, 18);
        termsAre("loop 1;loop 1;end;end;", 2);
        termsFail("loop 1 end;", 2, 7);
        termsFail("loop 1;end end;", 2, 11);
        termsFail("when stands ash end;", 2, 16);
        ParapetCourt x = of(RING);
        not(x, "two blocks without their ends", terms(x, "loop 1;loop 1;"), 10);
        not(x, "an end of other TERMS", terms(x, "end;"), 10);
        not(x, "a FAULT in a block", terms(x, "loop 1;loop 1;loop 1;year 0;"), 10);
        fine(x, "three blocks anew", terms(x, "loop 1;loop 1;loop 1;end;end;end;"), 3);
        termsFail("turns ash 0 0;", 2, 0);
        termsFail("stands ash;", 2, 0);
        termsFail("moss ash > 1;", 2, 0);
        termsFail("gap;", 2, 0);
    }

    private static void termsBound(String ahead, String behind, int low, int high) {
        int at = ahead.length();
        if (low > 0) {
            termsFail(ahead + (low - 1) + behind, 4, at);
        }
        termsAre(ahead + low + behind, 1);
        termsAre(ahead + high + behind, 1);
        termsFail(ahead + (high + 1) + behind, 4, at);
        termsFail(ahead + 9999 + behind, 4, at);
    }

    private static void numbersOfTheTerms() {
        sentence(11, "year: so many (1 to 20)");
        termsBound("year ", ";", 1, 20);
        sentence(11, "try: GUILT (0 to 99), a PLACE, 1 if he did it, else 0");
        termsBound("try ", " 0 0;", 0, 99);
        termsBound("try 0 ", " 0;", 0, 4);
        termsBound("try 0 0 ", ";", 0, 1);
        termsFail("try 0 0;", 2, 7);
        termsFail("try 0 0 0 0;", 2, 10);
        sentence(11, "turns: a STONE, a PLACE, GUILT (0 to 99)");
        termsBound("when turns ash ", " 0;end;", 0, 4);
        termsBound("when turns ash 0 ", ";end;", 0, 99);
        termsFail("when turns ash 0;end;", 2, 16);
        sentence(11, "moss: 0 to 9");
        termsBound("when moss ash < ", ";end;", 0, 9);
        termsBound("when moss ash > ", ";end;", 0, 9);
        termsBound("when moss ash = ", ";end;", 0, 9);
        termsFail("when moss ash 4;end;", 2, 14);
        termsFail("when moss ash ; 4;end;", 2, 14);
        sentence(11, "loop n (1 to 99)");
        termsBound("loop ", ";end;", 1, 99);
    }

    private static void numbersOfTheTermsByPlaces() {
        sentence(11, "a PLACE: of all that there are, GAPS, too");
        ParapetCourt x = new ParapetCourt();
        not(x, "a WALL of no PLACES", terms(x, "try 0 0 0;"), 10);
        is("a NUMBER that can't be", x.fault(0) * 100 + x.fault(1), 406);
        fine(x, "any has no PLACE told", terms(x, "any;"), 1);
        x = of("gap;");
        fine(x, "the only PLACE", terms(x, "try 0 0 0;"), 1);
        not(x, "the second", terms(x, "try 0 1 0;"), 10);
        x = of(times("gap;", 9) + "stone a lenient 1;");
        fine(x, "the tenth", terms(x, "try 0 9 0;when turns a 9 0;end;"), 2);
        not(x, "the eleventh", terms(x, "try 0 10 0;"), 10);
        is("a NUMBER that can't be", x.fault(0) * 100 + x.fault(1), 406);
    }

    private static void namesOfTheTerms() {
        sentence(11, "3 a NAME that is no such one (a CROW, then a STONE behind fly; else a STONE)");
        termsAre("fly rook ash;", 1);
        termsFail("fly ash rook;", 3, 4);
        termsFail("fly rook jay;", 3, 9);
        termsFail("fly elm ash;", 3, 4);
        for (String word : new String[] {"kind", "harsh", "clear", "when stands", "when turns", "when moss"}) {
            termsFail(word + " rook", 3, word.length() + 1);
            termsFail(word + " elm", 3, word.length() + 1);
            termsFail(word + " 4", 2, word.length() + 1);
        }
        sentence(11, "one that CRUMBLED or was carried off, too: it keeps its NAME");
        ParapetCourt x = of(RING);
        x.judge(99, 0, false);
        x.open(0);
        is("ash was carried off, cob crumbled", x.many(8), 18);
        fine(x, "both are named", terms(x, "kind ash;harsh cob;clear ash;fly rook cob;when stands cob;end;when moss ash = 0;end;when turns cob 0 9;end;"), 7);
        x.mend(0, 4, 4);
        x.mend(3, 4, 4);
        fine(x, "one that is a STONE again", terms(x, "kind ash;"), 1);
        x.live(0);
        is("it is that STONE", x.stone(0, 0), 30);
        sentence(11, "a CROW on no STONE keeps its NAME; one that was hatched has none");
        x = of("stone a lenient 1;crow b on a for;");
        x.open(0);
        fine(x, "on none", terms(x, "fly b a;"), 1);
        x.mend(0, 1, 1);
        x.hatch(0, true);
        x.live(0);
        is("it flew", x.crow(0, 0), 0);
        is("and was not MISSED", x.lived(0), 0);
    }

    // ---- promise 12

    private static void faultsThatAreTold() {
        sentence(12, "Of the latest of these with STATUS 0 or 10; NONE for others, and ahead of any");
        ParapetCourt x = new ParapetCourt();
        for (int what : new int[] {-1, 0, 1, 2, Integer.MIN_VALUE, Integer.MAX_VALUE}) {
            is("ahead of any", x.fault(what), -1);
        }
        x.wall(1);
        is("STATUS 5 tells none", x.fault(0), -1);
        x.terms(-1);
        is("STATUS 5 tells none", x.fault(0), -1);
        x.terms(0);
        is("STATUS 0: no FAULT", x.fault(0), 0);
        is("STATUS 0: no place", x.fault(1), -1);
        wall(x, "gap");
        is("STATUS 10: a FAULT", x.fault(0), 2);
        is("STATUS 10: its place", x.fault(1), 3);
        x.wall(1);
        x.terms(301);
        is("STATUS 5 changes nothing", x.fault(0) * 10 + x.fault(1), 23);
        terms(x, "year 0;");
        is("of terms(), too", x.fault(0) * 10 + x.fault(1), 45);
        for (int what : new int[] {-1, 2, Integer.MIN_VALUE, Integer.MAX_VALUE}) {
            is("others", x.fault(what), -1);
        }
        x.mark();
        wall(x, "?");
        x.back();
        is("taken back or not, the latest is told", x.fault(0) * 10 + x.fault(1), 10);
        wall(x, "gap;");
        is("STATUS 0: no FAULT", x.fault(0) * 10 + x.fault(1), -1);
    }
}
