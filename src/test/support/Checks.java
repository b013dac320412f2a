import java.nio.charset.StandardCharsets;
import java.util.Arrays;

/** What the tests of the project share: checks that print what is not as due, and texts that come onto the tape. */
abstract class Checks {
    /** Five places, the fourth a gap, two crows. */
    static final String RING = "odds 4;stone ash lenient 5;stone bay lenient 8 moss 2;stone cob lenient 3 strong 1;"
        + "gap;stone dun lenient 10;crow rook on ash against;crow jay on dun for;";

    static int wrong = 0;
    static int promise = 0;
    private static String sentence = "";

    /** Names the sentence of the document that the checks behind this are for. */
    static void sentence(int ofPromise, String words) {
        promise = ofPromise;
        sentence = words;
    }

    static void end(String allIsWell) {
        System.out.println(wrong == 0 ? allIsWell : wrong + " checks failed");
        if (wrong != 0) {
            System.exit(1);
        }
    }

    static void is(String what, long got, long want) {
        if (got != want) {
            tellWrong(what + " answered " + got + ", due is " + want);
        }
    }

    static void is(String what, boolean got, boolean want) {
        is(what, got ? 1 : 0, want ? 1 : 0);
    }

    static void is(String what, String got, String want) {
        if (!got.equals(want)) {
            tellWrong(what + " answered\n    " + got + ", due is\n    " + want);
        }
    }

    static void tellWrong(String what) {
        wrong++;
        System.out.println("promise " + promise + (sentence.isEmpty() ? "" : " (" + sentence + ")") + ": " + what);
    }

    static void fine(ParapetCourt x, String what, long got, long want) {
        is(what, got, want);
        is(what + ": status", x.status(), 0);
    }

    static void fine(ParapetCourt x, String what, boolean got) {
        is(what, got, true);
        is(what + ": status", x.status(), 0);
    }

    static void not(ParapetCourt x, String what, long got, int status) {
        is(what, got, -1);
        is(what + ": status", x.status(), status);
    }

    static void not(ParapetCourt x, String what, boolean got, int status) {
        is(what, got, false);
        is(what + ": status", x.status(), status);
    }

    static void fraction(ParapetCourt x, String what, boolean got, long top, long bottom) {
        fine(x, what, got);
        is(what + ": top", x.top(), top);
        is(what + ": bottom", x.bottom(), bottom);
    }

    static void feedText(ParapetCourt x, String text) {
        byte[] bytes = text.getBytes(StandardCharsets.ISO_8859_1);
        byte[] whole = Arrays.copyOf(bytes, (bytes.length + 19) / 20 * 20);
        for (int i = 0; i < whole.length; i += 20) {
            int[] five = new int[5];
            for (int j = 0; j < 20; j++) {
                five[j / 4] = five[j / 4] << 8 | whole[i + j] & 255;
            }
            x.feed(five[0], five[1], five[2], five[3], five[4]);
        }
    }

    static int wall(ParapetCourt x, String text) {
        feedText(x, text);
        return x.wall(text.length());
    }

    static int terms(ParapetCourt x, String text) {
        feedText(x, text);
        return x.terms(text.length());
    }

    static ParapetCourt of(String text) {
        ParapetCourt x = new ParapetCourt();
        if (wall(x, text) < 0) {
            tellWrong("a wall was refused: " + text + " fault " + x.fault(0) + " at " + x.fault(1));
        }
        return x;
    }

    static ParapetCourt of(String text, String terms) {
        ParapetCourt x = of(text);
        if (terms(x, terms) < 0) {
            tellWrong("terms were refused: " + terms + " fault " + x.fault(0) + " at " + x.fault(1));
        }
        return x;
    }

    /** A tray of 64 bits with just these numbers. */
    static void put(ParapetCourt x, int tray, long... numbers) {
        x.tray(tray, 3, numbers.length);
        for (int i = 0; i < numbers.length; i++) {
            x.write(tray, i, numbers[i]);
        }
    }

    static String times(String part, int many) {
        return part.repeat(many);
    }

    /** So many stones a, b, c .. alike. */
    static String stones(int many, String numbers) {
        StringBuilder text = new StringBuilder();
        for (int i = 0; i < many; i++) {
            text.append("stone ").append((char) ('a' + i)).append(' ').append(numbers).append(';');
        }
        return text.toString();
    }
}
