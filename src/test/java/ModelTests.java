import java.math.BigInteger;
import java.nio.charset.StandardCharsets;
import java.util.ArrayList;
import java.util.Arrays;
import java.util.List;
import java.util.Random;
import java.util.Set;
import java.util.regex.Matcher;
import java.util.regex.Pattern;

/** Random runs of calls, by fixed seeds: each answer against a plain model that tries out everything. */
public final class ModelTests {
    private static final int RUNS = 400;
    private static final int CALLS = 450;

    public static void main(String[] args) {
        int runs = args.length > 0 ? Integer.parseInt(args[0]) : RUNS;
        int from = args.length > 1 ? Integer.parseInt(args[1]) : 0;
        for (int run = from; run < from + runs; run++) {
            String trouble = new Run(run).go();
            if (trouble != null) {
                System.out.println("run " + run + ": " + trouble);
                System.exit(1);
            }
        }
        System.out.println("all answers are the model's");
    }

    // ---- the model

    private static final class Place {
        boolean stone;
        String name;
        int lenient;
        int moss;
        int strength;

        Place copy() {
            Place p = new Place();
            p.stone = stone;
            p.name = name;
            p.lenient = lenient;
            p.moss = moss;
            p.strength = strength;
            return p;
        }
    }

    private static final class Crow {
        String name;
        int at;
        boolean isFor;

        Crow copy() {
            Crow c = new Crow();
            c.name = name;
            c.at = at;
            c.isFor = isFor;
            return c;
        }
    }

    private static final class Step {
        String word;
        String test;
        int a;
        int b;
        int c;
        List<Step> block;
    }

    private static final class State {
        List<Place> places = new ArrayList<>();
        List<Crow> crows = new ArrayList<>();
        int odds = 8;
        int year;
        int trials;
        int condemned;
        int wrong;
        List<Step> terms;

        State copy() {
            State s = new State();
            for (Place p : places) {
                s.places.add(p.copy());
            }
            for (Crow c : crows) {
                s.crows.add(c.copy());
            }
            s.odds = odds;
            s.year = year;
            s.trials = trials;
            s.condemned = condemned;
            s.wrong = wrong;
            s.terms = terms;
            return s;
        }

        boolean place(long p) {
            return 0 <= p && p < places.size();
        }

        boolean stone(long p) {
            return place(p) && places.get((int) p).stone;
        }

        int stones() {
            return (int) places.stream().filter(p -> p.stone).count();
        }

        int far(int a, int b) {
            int up = 0;
            int n = places.size();
            while ((a + up) % n != b) {
                up++;
            }
            int down = 0;
            while ((a + n * 2 - down) % n != b) {
                down++;
            }
            return Math.min(up, down);
        }

        int mercy(int stone, int at) {
            Place p = places.get(stone);
            int sum = p.lenient + p.moss + far(stone, at);
            for (Crow c : crows) {
                if (c.at == stone) {
                    sum += c.isFor ? 3 : -3;
                }
            }
            return sum;
        }

        boolean turns(int stone, int guilt, int at) {
            return stone(stone) && guilt > mercy(stone, at);
        }

        int turned(int guilt, int at) {
            int set = 0;
            for (int p = 0; p < places.size(); p++) {
                set += turns(p, guilt, at) ? 1 << p : 0;
            }
            return set;
        }

        boolean condemns(int guilt, int at) {
            return stone(at) && Integer.bitCount(turned(guilt, at)) > stones() / 2.0;
        }

        void gap(int p) {
            Place place = places.get(p);
            place.stone = false;
            place.lenient = 0;
            place.moss = 0;
            place.strength = 0;
            for (Crow c : crows) {
                if (c.at == p) {
                    c.at = -1;
                }
            }
        }

        boolean trial(int guilt, int at, boolean did) {
            boolean is = condemns(guilt, at);
            int set = turned(guilt, at);
            trials++;
            condemned += is ? 1 : 0;
            if (is == did) {
                return is;
            }
            wrong++;
            for (int p = 0; p < places.size(); p++) {
                if (stone(p) && ((set >> p & 1) == 1) == is) {
                    places.get(p).strength--;
                }
            }
            for (int p = 0; p < places.size(); p++) {
                if (stone(p) && places.get(p).strength == 0) {
                    gap(p);
                }
            }
            return is;
        }

        void years(int n) {
            for (int i = 0; i < n; i++) {
                year++;
                for (Place p : places) {
                    if (p.stone && p.moss < 9) {
                        p.moss++;
                    }
                }
            }
        }

        int moss() {
            return places.stream().filter(p -> p.stone).mapToInt(p -> p.moss).sum();
        }

        int find(String name) {
            for (int p = 0; p < places.size(); p++) {
                if (name.equals(places.get(p).name)) {
                    return p;
                }
            }
            return -1;
        }

        int findCrow(String name) {
            for (int c = 0; c < crows.size(); c++) {
                if (name.equals(crows.get(c).name)) {
                    return c;
                }
            }
            return -1;
        }
    }

    private static final class Fault extends RuntimeException {
        private static final long serialVersionUID = 1;
        final int kind;
        final int at;

        Fault(int kind, int at) {
            super(null, null, false, false);
            this.kind = kind;
            this.at = at;
        }
    }

    private static final class Stopped extends RuntimeException {
        private static final long serialVersionUID = 1;

        Stopped() {
            super(null, null, false, false);
        }
    }

    /** Reads a text by a pattern of its tokens. */
    private static final class Reader {
        static final Pattern TOKEN = Pattern.compile("[a-z]+|[0-9]+|[;<>=]");
        static final Set<String> WORDS = Set.of("odds", "stone", "lenient", "moss", "strong", "gap", "crow", "on", "for",
            "against", "year", "try", "kind", "harsh", "clear", "fly", "any", "when", "turns", "stands", "loop", "end", "stop");
        final String text;
        String token;
        int at;

        Reader(String text) {
            this.text = text;
            at = 0;
            token = "";
            next();
        }

        /** The next token: empty at the end, null where none begins. */
        void next() {
            at += token == null ? 0 : token.length();
            while (at < text.length() && " \n".indexOf(text.charAt(at)) >= 0) {
                at++;
            }
            if (at == text.length()) {
                token = "";
                return;
            }
            Matcher m = TOKEN.matcher(text).region(at, text.length());
            token = m.lookingAt() ? m.group() : null;
            if (token != null && token.matches("[0-9]{5,}")) {
                token = null;
            }
        }

        Fault fault(int kind) {
            return new Fault(token == null ? 1 : kind, at);
        }

        boolean is(String word) {
            return word.equals(token);
        }

        String word() {
            if (token == null || !token.matches("[a-z]+")) {
                throw fault(2);
            }
            return token;
        }

        void want(String... words) {
            if (token == null || !Arrays.asList(words).contains(token)) {
                throw fault(2);
            }
        }

        void take(String word) {
            want(word);
            next();
        }

        int number(int from, int to) {
            if (token == null || !token.matches("[0-9]+")) {
                throw fault(2);
            }
            int v = Integer.parseInt(token);
            if (v < from || v > to) {
                throw fault(4);
            }
            next();
            return v;
        }

        String name() {
            if (token == null || !token.matches("[a-z]{1,8}") || WORDS.contains(token)) {
                throw fault(2);
            }
            return token;
        }

        State wall() {
            State s = new State();
            boolean told = false;
            while (!is("")) {
                want("odds", "stone", "gap", "crow");
                String part = token;
                if (part.equals("odds") && told) {
                    throw fault(5);
                }
                if (part.equals("crow") ? s.crows.size() == 4 : !part.equals("odds") && s.places.size() == 10) {
                    throw fault(6);
                }
                next();
                if (part.equals("odds")) {
                    told = true;
                    s.odds = number(0, 16);
                } else if (part.equals("crow")) {
                    s.crows.add(crow(s));
                } else {
                    s.places.add(part.equals("gap") ? new Place() : stone(s));
                }
                take(";");
            }
            return s;
        }

        String newName(State s) {
            String name = name();
            if (s.find(name) >= 0 || s.findCrow(name) >= 0) {
                throw fault(3);
            }
            next();
            return name;
        }

        Place stone(State s) {
            Place p = new Place();
            p.stone = true;
            p.name = newName(s);
            take("lenient");
            p.lenient = number(0, 30);
            p.strength = 3;
            if (is("moss")) {
                next();
                p.moss = number(0, 9);
            }
            if (is("strong")) {
                next();
                p.strength = number(1, 9);
            }
            return p;
        }

        Crow crow(State s) {
            Crow c = new Crow();
            c.name = newName(s);
            take("on");
            c.at = stoneName(s);
            want("for", "against");
            c.isFor = is("for");
            next();
            return c;
        }

        int stoneName(State s) {
            int p = s.find(name());
            if (p < 0) {
                throw fault(3);
            }
            next();
            return p;
        }

        int steps = 0;

        List<Step> terms(State s, int depth) {
            List<Step> list = new ArrayList<>();
            while (!(depth > 0 ? is("end") : is(""))) {
                want("year", "try", "kind", "harsh", "clear", "fly", "any", "when", "loop", "stop");
                if (steps == 30) {
                    throw fault(6);
                }
                boolean blocked = is("when") || is("loop");
                if (blocked && depth == 3) {
                    throw fault(7);
                }
                steps++;
                Step step = step(s);
                list.add(step);
                take(";");
                if (blocked) {
                    step.block = terms(s, depth + 1);
                    take("end");
                    take(";");
                }
            }
            return list;
        }

        Step step(State s) {
            Step step = new Step();
            step.word = token;
            next();
            switch (step.word) {
                case "year": step.a = number(1, 20); break;
                case "loop": step.a = number(1, 99); break;
                case "try":
                    step.a = number(0, 99);
                    step.b = number(0, s.places.size() - 1);
                    step.c = number(0, 1);
                    break;
                case "fly":
                    step.a = s.findCrow(name());
                    if (step.a < 0) {
                        throw fault(3);
                    }
                    next();
                    step.b = stoneName(s);
                    break;
                case "when": test(s, step); break;
                case "any":
                case "stop": break;
                default: step.a = stoneName(s);
            }
            return step;
        }

        void test(State s, Step step) {
            want("turns", "stands", "moss");
            step.test = token;
            next();
            step.a = stoneName(s);
            if (step.test.equals("turns")) {
                step.b = number(0, s.places.size() - 1);
                step.c = number(0, 99);
            } else if (step.test.equals("moss")) {
                want("<", ">", "=");
                step.b = token.charAt(0);
                next();
                step.c = number(0, 9);
            }
        }
    }

    /** Lives the steps as a tree. */
    private static final class Living {
        final State s;
        long draw;
        int done;
        int missed;
        int years;
        int condemned;
        int wrong;
        boolean left;

        Living(State s, int seed) {
            this.s = s;
            draw = seed;
            try {
                all(s.terms);
            } catch (Stopped stopped) {
                // The terms are over.
            }
        }

        int draw(int n) {
            draw = (draw * 2971 + 10903) % 65536;
            return (int) (draw / 8 % n);
        }

        void all(List<Step> steps) {
            for (Step step : steps) {
                if (done == 300) {
                    left = true;
                    throw new Stopped();
                }
                done++;
                one(step);
            }
        }

        void one(Step step) {
            switch (step.word) {
                case "stop": throw new Stopped();
                case "loop":
                    for (int i = 0; i < step.a; i++) {
                        all(step.block);
                    }
                    return;
                case "when":
                    if (holds(step)) {
                        all(step.block);
                    }
                    return;
                default:
                    missed += did(step) ? 0 : 1;
            }
        }

        boolean holds(Step step) {
            int moss = s.stone(step.a) ? s.places.get(step.a).moss : 0;
            switch (step.test) {
                case "stands": return s.stone(step.a);
                case "turns": return s.turns(step.a, step.c, step.b);
                default: return step.b == '<' ? moss < step.c : step.b == '>' ? moss > step.c : moss == step.c;
            }
        }

        boolean did(Step step) {
            Place p = s.place(step.a) ? s.places.get(step.a) : null;
            switch (step.word) {
                case "year":
                    if (s.year + step.a > 9999) {
                        return false;
                    }
                    s.years(step.a);
                    years += step.a;
                    return true;
                case "try": return trial(step.a, step.b, step.c == 1);
                case "any":
                    if (s.places.isEmpty()) {
                        return false;
                    }
                    boolean did = draw(16) < s.odds;
                    int guilt = draw(40);
                    return trial(guilt, draw(s.places.size()), did);
                case "fly":
                    if (!s.stone(step.b) || s.crows.get(step.a).at == step.b) {
                        return false;
                    }
                    s.crows.get(step.a).at = step.b;
                    return true;
                default:
                    if (!p.stone || step.word.equals("clear") && p.moss == 0) {
                        return false;
                    }
                    p.moss = 0;
                    p.lenient = step.word.equals("kind") ? 30 : step.word.equals("harsh") ? 0 : p.lenient;
                    return true;
            }
        }

        boolean trial(int guilt, int at, boolean did) {
            boolean is = s.trial(guilt, at, did);
            condemned += is ? 1 : 0;
            wrong += is == did ? 0 : 1;
            return is == did;
        }
    }

    private static final class Model {
        State s = new State();
        final List<State> marks = new ArrayList<>();
        final long[][] trays = new long[4][];
        final int[] sorts = new int[4];
        StringBuilder tape = new StringBuilder();
        Living lived;
        int status;
        int fault = -1;
        int faultAt = -1;
        BigInteger top = BigInteger.ZERO;
        BigInteger bottom = BigInteger.ONE;

        long no(int why) {
            status = why;
            return -1;
        }

        long yes(long answer) {
            status = 0;
            return answer;
        }

        long fraction(BigInteger a, BigInteger b) {
            BigInteger g = a.gcd(b);
            top = a.divide(g);
            bottom = b.divide(g);
            return yes(1);
        }

        long fraction(long a, long b) {
            return fraction(BigInteger.valueOf(a), BigInteger.valueOf(b));
        }

        boolean noTray(int t) {
            return t < 0 || t > 3;
        }

        boolean noGuilt(long g) {
            return g < 0 || g > 99;
        }

        long call(String name, int[] v) {
            switch (name) {
                case "tray":
                    if (noTray(v[0]) || v[1] < 0 || v[1] > 3) {
                        return no(1);
                    }
                    if (v[2] > 60) {
                        return no(5);
                    }
                    if (v[2] < 0) {
                        return no(6);
                    }
                    trays[v[0]] = new long[v[2]];
                    sorts[v[0]] = v[1];
                    return yes(1);
                case "write":
                case "read":
                    if (noTray(v[0])) {
                        return no(1);
                    }
                    if (trays[v[0]] == null) {
                        return no(3);
                    }
                    if (v[1] < 0 || v[1] >= trays[v[0]].length) {
                        return no(4);
                    }
                    if (name.equals("read")) {
                        return yes(trays[v[0]][v[1]]);
                    }
                    trays[v[0]][v[1]] = cut(sorts[v[0]], wide(v[2]));
                    return yes(1);
                case "pour": return pour(v[0], v[1], v[2], v[3], v[4]);
                case "many": return many(v[0]);
                case "stone": return stone(v[0], v[1]);
                case "crow": return crow(v[0], v[1]);
                case "copyMoss": return copyMoss(v[0]);
                case "judge":
                case "turned":
                case "verdict":
                case "freeIn":
                    if (!s.place(v[1])) {
                        return no(2);
                    }
                    if (noGuilt(v[0])) {
                        return no(5);
                    }
                    if (name.equals("freeIn")) {
                        return freeIn(v[0], v[1]);
                    }
                    return yes(name.equals("judge") ? (s.trial(v[0], v[1], v[2] == 1) ? 1 : 0)
                        : name.equals("turned") ? s.turned(v[0], v[1]) : s.condemns(v[0], v[1]) ? 1 : 0);
                default: return call2(name, v);
            }
        }

        long call2(String name, int[] v) {
            switch (name) {
                case "year":
                    if (v[0] < 1 || v[0] > 99) {
                        return no(5);
                    }
                    if (s.year + v[0] > 9999) {
                        return no(7);
                    }
                    s.years(v[0]);
                    return yes(s.moss());
                case "carve":
                case "clear":
                case "open":
                case "mend": return change(name, v);
                case "fly":
                    if (v[0] < 0 || v[0] >= s.crows.size() || !s.place(v[1])) {
                        return no(2);
                    }
                    if (!s.stone(v[1])) {
                        return no(8);
                    }
                    int was = s.crows.get(v[0]).at;
                    if (was == v[1]) {
                        return no(9);
                    }
                    s.crows.get(v[0]).at = v[1];
                    return yes(was < 0 ? 0 : 1);
                case "hatch":
                    if (!s.place(v[0])) {
                        return no(2);
                    }
                    if (s.crows.size() == 4) {
                        return no(7);
                    }
                    if (!s.stone(v[0])) {
                        return no(8);
                    }
                    Crow c = new Crow();
                    c.at = v[0];
                    c.isFor = v[1] == 1;
                    s.crows.add(c);
                    return yes(s.crows.size() - 1);
                case "rule":
                    if (v[0] < 0 || v[0] > 16) {
                        return no(5);
                    }
                    s.odds = v[0];
                    return yes(1);
                case "far":
                case "mercy":
                    if (!s.place(v[0]) || !s.place(v[1])) {
                        return no(2);
                    }
                    if (name.equals("far")) {
                        return yes(s.far(v[0], v[1]));
                    }
                    return s.stone(v[0]) ? yes(s.mercy(v[0], v[1])) : no(8);
                case "stand":
                case "fall": return stand(v[0], name.equals("stand"));
                case "least":
                    if (!s.place(v[0])) {
                        return no(2);
                    }
                    for (int g = 0; g < 100; g++) {
                        if (s.condemns(g, v[0])) {
                            return yes(g);
                        }
                    }
                    return no(8);
                default: return call3(name, v);
            }
        }

        long call3(String name, int[] v) {
            switch (name) {
                case "fits":
                case "fitsBy":
                case "ask": return fits(name, v);
                case "cuts":
                case "cutOf": return cuts(name, v);
                case "windows":
                case "windowSet": return windows(name, v);
                case "walk":
                case "walkAt": return walk(name, v);
                case "longest": return longest();
                case "game":
                case "moveOf": return game(name, v);
                case "lot": return lot(v[0], v[1]);
                case "couples": return couples(v[0]);
                case "live":
                    if (v[0] < 0 || v[0] > 9999) {
                        return no(5);
                    }
                    if (s.terms == null) {
                        return no(8);
                    }
                    lived = new Living(s, v[0]);
                    return yes(lived.done);
                case "lived":
                    if (v[0] < 0 || v[0] > 4) {
                        return no(5);
                    }
                    if (lived == null) {
                        return no(8);
                    }
                    return yes(new int[] {lived.missed, lived.years, lived.condemned, lived.wrong, lived.left ? 1 : 0}[v[0]]);
                case "mean": return mean(v[0], v[1]);
                case "mark":
                    if (marks.size() == 3) {
                        return no(7);
                    }
                    marks.add(s.copy());
                    return yes(marks.size());
                case "back":
                    if (marks.isEmpty()) {
                        return no(8);
                    }
                    s = marks.remove(marks.size() - 1);
                    return yes(marks.size());
                default: throw new IllegalStateException(name);
            }
        }

        static long cut(int sort, long v) {
            return sort == 0 ? (byte) v : sort == 1 ? (short) v : sort == 2 ? (int) v : v;
        }

        long pour(int from, int i, int to, int j, int many) {
            if (noTray(from) || noTray(to)) {
                return no(1);
            }
            if (trays[from] == null || trays[to] == null) {
                return no(3);
            }
            if (sorts[from] != sorts[to]) {
                return no(11);
            }
            if (many < 0) {
                return no(6);
            }
            if (i < 0 || j < 0 || (long) i + many > trays[from].length || (long) j + many > trays[to].length) {
                return no(4);
            }
            long[] were = trays[from].clone();
            for (int k = 0; k < many; k++) {
                trays[to][j + k] = were[i + k];
            }
            return yes(1);
        }

        long text(boolean isWall, int n) {
            if (n < 0 || n > tape.length() || !isWall && n > 300) {
                return no(5);
            }
            Reader reader = new Reader(tape.substring(0, n));
            tape = new StringBuilder();
            try {
                fault = 0;
                faultAt = -1;
                if (isWall) {
                    s = reader.wall();
                    return yes(s.places.size());
                }
                s.terms = reader.terms(s, 0);
                return yes(reader.steps);
            } catch (Fault f) {
                fault = f.kind;
                faultAt = f.at;
                return no(10);
            }
        }

        long many(int what) {
            int set = 0;
            for (int p = 0; p < s.places.size(); p++) {
                set |= s.stone(p) ? 1 << p : 0;
            }
            int[] all = {s.places.size(), s.stones(), s.crows.size(), s.odds, s.year, s.trials, s.condemned, s.wrong, set, s.moss()};
            return what < 0 || what > 9 ? no(5) : yes(all[what]);
        }

        long stone(int place, int what) {
            if (!s.place(place)) {
                return no(2);
            }
            if (what < 0 || what > 4) {
                return no(5);
            }
            if (!s.stone(place)) {
                return no(8);
            }
            Place p = s.places.get(place);
            int set = 0;
            for (int c = 0; c < s.crows.size(); c++) {
                set |= s.crows.get(c).at == place ? 1 << c : 0;
            }
            return yes(new int[] {p.lenient, p.moss, p.strength, set, s.mercy(place, place)}[what]);
        }

        long crow(int crow, int what) {
            if (crow < 0 || crow >= s.crows.size()) {
                return no(2);
            }
            if (what < 0 || what > 1) {
                return no(5);
            }
            Crow c = s.crows.get(crow);
            return what == 1 ? yes(c.isFor ? 1 : 0) : c.at < 0 ? no(8) : yes(c.at);
        }

        long copyMoss(int tray) {
            if (noTray(tray)) {
                return no(1);
            }
            if (trays[tray] == null) {
                return no(3);
            }
            if (trays[tray].length < s.places.size()) {
                return no(4);
            }
            for (int p = 0; p < s.places.size(); p++) {
                trays[tray][p] = s.stone(p) ? s.places.get(p).moss : 0;
            }
            return yes(s.places.size());
        }

        long change(String name, int[] v) {
            if (!s.place(v[0])) {
                return no(2);
            }
            Place p = s.places.get(v[0]);
            if (!name.equals("clear") && !name.equals("open") && (v[1] < 0 || v[1] > 30)) {
                return no(5);
            }
            if (name.equals("mend")) {
                if (v[2] < 1 || v[2] > 9) {
                    return no(5);
                }
                if (p.stone) {
                    return no(9);
                }
                p.stone = true;
                p.lenient = v[1];
                p.moss = 0;
                p.strength = v[2];
                return yes(1);
            }
            if (!p.stone || name.equals("clear") && p.moss == 0) {
                return no(8);
            }
            if (name.equals("open")) {
                s.gap(v[0]);
                return yes(1);
            }
            int was = name.equals("clear") ? p.moss : p.lenient;
            if (name.equals("clear")) {
                p.moss = 0;
            } else {
                p.lenient = v[1];
            }
            return yes(was);
        }

        long freeIn(int guilt, int at) {
            for (int years = 0; years <= 9; years++) {
                State then = s.copy();
                then.years(years);
                if (!then.condemns(guilt, at)) {
                    return yes(years);
                }
            }
            return no(8);
        }

        long stand(int guilt, boolean fewest) {
            if (noGuilt(guilt)) {
                return no(5);
            }
            int best = -1;
            for (int p = 0; p < s.places.size(); p++) {
                if (s.stone(p)) {
                    int count = Integer.bitCount(s.turned(guilt, p));
                    int bestCount = best < 0 ? 0 : Integer.bitCount(s.turned(guilt, best));
                    if (best < 0 || (fewest ? count < bestCount : count > bestCount)) {
                        best = p;
                    }
                }
            }
            return best < 0 ? no(8) : yes(best);
        }

        int threes(int tray, int n, int most) {
            if (noTray(tray)) {
                return 1;
            }
            if (trays[tray] == null) {
                return 3;
            }
            if (n > 0 && trays[tray].length / 3 < n) {
                return 4;
            }
            return n < 0 || n > most ? 5 : 0;
        }

        long fits(String name, int[] v) {
            int why = threes(v[0], v[1], 20);
            if (why != 0) {
                return no(why);
            }
            if (v.length > 2 && (v[2] < 0 || v[2] > 1)) {
                return no(5);
            }
            List<Integer> fit = new ArrayList<>();
            long[] row = trays[v[0]];
            for (int i = 0; i < v[1]; i++) {
                if (!s.place(row[3 * i]) || !s.stone(row[3 * i + 1]) || row[3 * i + 2] != 0 && row[3 * i + 2] != 1) {
                    return no(5);
                }
            }
            for (int g = 0; g <= 60; g++) {
                boolean all = true;
                for (int i = 0; i < v[1]; i++) {
                    all &= s.turns((int) row[3 * i + 1], g, (int) row[3 * i]) == (row[3 * i + 2] == 1);
                }
                if (all) {
                    fit.add(g);
                }
            }
            if (name.equals("fits")) {
                return yes(fit.size());
            }
            if (name.equals("fitsBy")) {
                return fit.isEmpty() ? no(8) : yes(v[2] == 0 ? fit.get(0) : fit.get(fit.size() - 1));
            }
            return fit.size() < 2 || s.stones() == 0 ? no(8) : yes(ask(fit)[v[2]]);
        }

        int[] ask(List<Integer> fit) {
            int[] best = null;
            int bestPart = 0;
            for (int at = 0; at < s.places.size(); at++) {
                for (int stone = 0; stone < s.places.size(); stone++) {
                    if (s.stone(stone)) {
                        int turn = 0;
                        for (int g : fit) {
                            turn += s.turns(stone, g, at) ? 1 : 0;
                        }
                        int part = Math.max(turn, fit.size() - turn);
                        if (best == null || part < bestPart) {
                            best = new int[] {at, stone};
                            bestPart = part;
                        }
                    }
                }
            }
            return best;
        }

        long cuts(String name, int[] v) {
            if (name.equals("cutOf") && !noTray(v[0]) && !s.place(v[2])) {
                return no(2);
            }
            int why = threes(v[0], v[1], 6);
            if (why != 0) {
                return no(why);
            }
            long[] row = trays[v[0]];
            for (int i = 0; i < v[1]; i++) {
                if (noGuilt(row[3 * i]) || !s.place(row[3 * i + 1]) || row[3 * i + 2] != 0 && row[3 * i + 2] != 1) {
                    return no(5);
                }
            }
            int n = s.places.size();
            int[] best = null;
            int bestCount = 0;
            int ways = (int) Math.pow(3, n);
            int[] sets = new int[v[1]];
            for (int i = 0; i < v[1]; i++) {
                sets[i] = s.turned((int) row[3 * i], (int) row[3 * i + 1]);
            }
            for (int way = 0; way < ways; way++) {
                int[] cut = new int[n];
                int rest = way;
                int count = 0;
                boolean can = true;
                for (int p = n - 1; p >= 0; p--) {
                    cut[p] = rest % 3;
                    rest /= 3;
                    count += cut[p] > 0 ? 1 : 0;
                    can &= cut[p] == 0 || s.stone(p);
                }
                if (can && (best == null || count < bestCount) && hold(cut, row, sets)) {
                    best = cut;
                    bestCount = count;
                }
            }
            return best == null ? no(8) : yes(name.equals("cuts") ? bestCount : best[v[2]]);
        }

        boolean hold(int[] cut, long[] row, int[] sets) {
            for (int i = 0; i < sets.length; i++) {
                int turn = 0;
                for (int p = 0; p < cut.length; p++) {
                    if (s.stone(p)) {
                        turn += cut[p] == 2 || cut[p] == 0 && (sets[i] >> p & 1) == 1 ? 1 : 0;
                    }
                }
                boolean is = s.stone(row[3 * i + 1]) && turn > s.stones() / 2.0;
                if (is != (row[3 * i + 2] == 1)) {
                    return false;
                }
            }
            return true;
        }

        long windows(String name, int[] v) {
            if (!s.place(v[1])) {
                return no(2);
            }
            if (noGuilt(v[0])) {
                return no(5);
            }
            if (!s.stone(v[1])) {
                return no(9);
            }
            boolean now = s.condemns(v[0], v[1]);
            int best = -1;
            for (int set = 1; set < 1 << s.places.size(); set++) {
                State then = s.copy();
                boolean can = (set >> v[1] & 1) == 0 && (best < 0 || Integer.bitCount(set) < Integer.bitCount(best));
                for (int p = 0; p < s.places.size() && can; p++) {
                    if ((set >> p & 1) == 1) {
                        can &= s.stone(p);
                        then.gap(p);
                    }
                }
                if (can && then.condemns(v[0], v[1]) != now) {
                    best = set;
                }
            }
            return best < 0 ? no(8) : yes(name.equals("windows") ? Integer.bitCount(best) : best);
        }

        long walk(String name, int[] v) {
            if (!s.place(v[0]) || !s.place(v[1])) {
                return no(2);
            }
            List<Integer> up = way(v[0], v[1], 1);
            List<Integer> down = way(v[0], v[1], s.places.size() - 1);
            List<Integer> best = down == null || up != null && up.size() <= down.size() ? up : down;
            if (best == null) {
                return no(8);
            }
            if (name.equals("walk")) {
                return yes(best.size() - 1);
            }
            return v[2] < 0 || v[2] >= best.size() ? no(8) : yes(best.get(v[2]));
        }

        List<Integer> way(int from, int to, int step) {
            List<Integer> way = new ArrayList<>();
            int p = from;
            while (true) {
                if (!s.stone(p)) {
                    return null;
                }
                way.add(p);
                if (p == to) {
                    return way;
                }
                p = (p + step) % s.places.size();
            }
        }

        long longest() {
            int best = 0;
            for (int from = 0; from < s.places.size(); from++) {
                int row = 0;
                while (row < s.places.size() && s.stone((from + row) % s.places.size())) {
                    row++;
                }
                best = Math.max(best, row);
            }
            return yes(best);
        }

        long game(String name, int[] v) {
            if (!s.place(v[1])) {
                return no(2);
            }
            if (noGuilt(v[0]) || v[2] < (name.equals("game") ? 0 : 1) || v[2] > 4) {
                return no(5);
            }
            int[] mercies = new int[s.places.size()];
            for (int p = 0; p < mercies.length; p++) {
                mercies[p] = s.stone(p) ? s.mercy(p, v[1]) : 1000;
            }
            int best = play(mercies, 0, v[0], v[2], true);
            if (name.equals("game")) {
                return yes(best);
            }
            for (int p = 0; p < mercies.length; p++) {
                if (s.stone(p)) {
                    mercies[p] -= 3;
                    if (play(mercies, 1 << p, v[0], v[2] - 1, false) == best) {
                        return yes(p);
                    }
                    mercies[p] += 3;
                }
            }
            return no(8);
        }

        int play(int[] mercies, int set, int guilt, int turns, boolean against) {
            if (turns == 0) {
                return (int) Arrays.stream(mercies).filter(m -> guilt > m).count();
            }
            int best = play(mercies, set, guilt, turns - 1, !against);
            for (int p = 0; p < mercies.length; p++) {
                if (s.stone(p) && (set >> p & 1) == 0) {
                    int by = against ? -3 : 3;
                    mercies[p] += by;
                    int value = play(mercies, set | 1 << p, guilt, turns - 1, !against);
                    mercies[p] -= by;
                    best = against ? Math.max(best, value) : Math.min(best, value);
                }
            }
            return best;
        }

        long lot(int guilt, int what) {
            if (noGuilt(guilt) || what < 0 || what > 1) {
                return no(5);
            }
            if (s.stones() == 0) {
                return no(8);
            }
            int sum = 0;
            for (int p = 0; p < s.places.size(); p++) {
                if (s.stone(p)) {
                    sum += what == 0 ? s.condemns(guilt, p) ? 1 : 0 : Integer.bitCount(s.turned(guilt, p));
                }
            }
            return fraction(sum, s.stones());
        }

        long couples(int k) {
            if (k < 0 || k > 10) {
                return no(5);
            }
            BigInteger sum = BigInteger.ZERO;
            int n = s.stones();
            for (int set = 0; set < 1 << n; set++) {
                int c = Integer.bitCount(set);
                if (c >= k) {
                    sum = sum.add(BigInteger.valueOf(s.odds).pow(c).multiply(BigInteger.valueOf(16 - s.odds).pow(n - c)));
                }
            }
            return fraction(sum, BigInteger.valueOf(16).pow(n));
        }

        long mean(int seed, int many) {
            if (seed < 0 || many < 1 || many > 20 || (long) seed + many - 1 > 9999) {
                return no(5);
            }
            if (s.terms == null) {
                return no(8);
            }
            int sum = 0;
            for (int i = 0; i < many; i++) {
                State then = s.copy();
                new Living(then, seed + i);
                sum += then.stones();
            }
            return fraction(sum, many);
        }
    }

    /** Most numbers are written as they are, some far away, so that cutting is seen. */
    private static long wide(int v) {
        return v > 1000 ? v * 1000003L * 100003L : v;
    }

    // ---- the runs

    private static final class Run {
        static final String[] NAMES = {"tray", "write", "read", "pour", "many", "stone", "crow", "copyMoss", "judge", "year", "carve",
            "clear", "open", "mend", "fly", "hatch", "rule", "far", "mercy", "turned", "verdict", "stand", "fall", "least", "freeIn",
            "fits", "fitsBy", "ask", "cuts", "cutOf", "windows", "windowSet", "walk", "walkAt", "longest", "game", "moveOf", "lot",
            "couples", "live", "lived", "mean", "mark", "back"};
        static final String[] KEYS = Reader.WORDS.stream().sorted().toArray(String[]::new);
        static final String[] SOME = {"ash", "bay", "cob", "dun", "elm", "fir", "gum", "haw", "ivy", "jay", "abcdefgh", "abcdefghi", "z"};
        final Random random;
        final ParapetCourt court = new ParapetCourt();
        final Model model = new Model();
        String last = "";

        Run(int seed) {
            random = new Random(seed * 7919L + 13);
        }

        String go() {
            for (int i = 0; i < CALLS; i++) {
                int kind = i == 0 ? 0 : random.nextInt(40);
                if (kind == 0) {
                    text(true, i == 0 || random.nextInt(3) > 0 ? goodWall() : spoil(goodWall()));
                } else if (kind == 1 || kind == 3) {
                    text(false, random.nextInt(3) > 0 ? goodTerms() : spoil(goodTerms()));
                } else if (kind == 2 || kind == 4) {
                    threes();
                } else {
                    one();
                }
                String trouble = trouble();
                if (trouble != null) {
                    return trouble;
                }
            }
            return null;
        }

        String trouble;

        String trouble() {
            if (trouble != null) {
                return trouble;
            }
            if (court.status() != model.status) {
                return last + ": status " + court.status() + ", the model's " + model.status;
            }
            if (court.fault(0) != model.fault || court.fault(1) != model.faultAt) {
                return last + ": fault " + court.fault(0) + " at " + court.fault(1) + ", the model's " + model.fault + " at " + model.faultAt;
            }
            if (court.top() != model.top.longValueExact() || court.bottom() != model.bottom.longValueExact()) {
                return last + ": " + court.top() + " by " + court.bottom() + ", the model's " + model.top + " by " + model.bottom;
            }
            return null;
        }

        void due(String call, long got, long want) {
            last = call;
            if (got != want && trouble == null) {
                trouble = call + " answered " + got + ", the model " + want;
            }
        }

        void text(boolean isWall, String text) {
            byte[] bytes = text.getBytes(StandardCharsets.ISO_8859_1);
            byte[] whole = Arrays.copyOf(bytes, (bytes.length + 19) / 20 * 20);
            for (int i = 0; i < whole.length; i += 20) {
                int[] five = new int[5];
                for (int j = 0; j < 20; j++) {
                    five[j / 4] = five[j / 4] << 8 | whole[i + j] & 255;
                }
                int want = -1;
                if (model.tape.length() + 20 <= 900) {
                    model.tape.append(new String(whole, i, 20, StandardCharsets.ISO_8859_1));
                    want = model.tape.length();
                }
                due("feed", court.feed(five[0], five[1], five[2], five[3], five[4]), want);
            }
            int n = random.nextInt(40) == 0 ? random.nextInt(1000) - 20 : text.length();
            String call = (isWall ? "wall(" : "terms(") + n + ") of " + text;
            due(call, isWall ? court.wall(n) : court.terms(n), model.text(isWall, n));
        }

        String pick(String... of) {
            return of[random.nextInt(of.length)];
        }

        String goodWall() {
            StringBuilder text = new StringBuilder();
            if (random.nextInt(3) > 0) {
                text.append("odds ").append(random.nextInt(17)).append(';');
            }
            int places = random.nextInt(8) == 0 ? 10 : random.nextInt(8);
            int base = random.nextInt(15);
            int spread = 1 + random.nextInt(10);
            List<String> names = new ArrayList<>();
            for (int p = 0; p < places; p++) {
                if (random.nextInt(6) == 0) {
                    text.append(pick("gap;", "gap ;\n"));
                } else {
                    String name = SOME[p];
                    names.add(name);
                    text.append("stone ").append(name).append(" lenient ").append(base + random.nextInt(spread));
                    text.append(random.nextInt(3) == 0 ? " moss " + random.nextInt(10) : "");
                    text.append(random.nextInt(2) == 0 ? " strong " + (1 + random.nextInt(9)) : "").append(';');
                }
                if (!names.isEmpty() && random.nextInt(5) == 0 && text.indexOf("crow d") < 0) {
                    String crow = text.indexOf("crow a") < 0 ? "a" : text.indexOf("crow b") < 0 ? "b" : text.indexOf("crow c") < 0 ? "c" : "d";
                    text.append("crow ").append(crow).append(" on ").append(names.get(random.nextInt(names.size())));
                    text.append(pick(" for;", " against;"));
                }
            }
            return text.toString();
        }

        String goodTerms() {
            StringBuilder text = new StringBuilder();
            steps(text, 0, random.nextInt(20) == 0 ? 31 : random.nextInt(7));
            return text.toString();
        }

        /** One of these names, mostly; some things have none. */
        String named(String... names) {
            String name = names.length == 0 || random.nextInt(60) == 0 ? pick(SOME) : pick(names);
            return name != null ? name : names[0] != null ? names[0] : pick(SOME);
        }

        void steps(StringBuilder text, int depth, int many) {
            for (int i = 0; i < many; i++) {
                String stone = named(model.s.places.stream().map(p -> p.name).toArray(String[]::new));
                String crow = named(model.s.crows.stream().map(c -> c.name).toArray(String[]::new));
                int place = random.nextInt(Math.max(1, model.s.places.size()));
                int limit = random.nextInt(30) == 0 ? 4 : 3;
                switch (random.nextInt(depth < limit ? 12 : 9)) {
                    case 0: text.append("year ").append(1 + random.nextInt(20)).append(';'); break;
                    case 1: text.append("try ").append(random.nextInt(40)).append(' ').append(place).append(pick(" 0;", " 1;")); break;
                    case 2: text.append("kind ").append(stone).append(';'); break;
                    case 3: text.append("harsh ").append(stone).append(';'); break;
                    case 4: text.append("clear ").append(stone).append(';'); break;
                    case 5: text.append("fly ").append(crow).append(' ').append(stone).append(';'); break;
                    case 6: text.append(random.nextInt(6) == 0 ? "stop;" : "any;"); break;
                    case 7:
                    case 8: text.append("any;"); break;
                    case 9:
                        text.append("loop ").append(random.nextBoolean() ? 1 + random.nextInt(99) : 1 + random.nextInt(4)).append(';');
                        steps(text, depth + 1, random.nextInt(4));
                        text.append("end;");
                        break;
                    default:
                        text.append("when ");
                        int test = random.nextInt(3);
                        text.append(test == 0 ? "stands " + stone : test == 1 ? "turns " + stone + " " + place + " " + random.nextInt(40)
                            : "moss " + stone + pick("<", " > ", "=") + random.nextInt(10));
                        text.append(';');
                        steps(text, depth + 1, random.nextInt(4));
                        text.append("end;");
                }
            }
        }

        /** A text with something changed, left out, put in. */
        String spoil(String good) {
            List<String> parts = new ArrayList<>();
            Matcher m = Pattern.compile("[a-z]+|[0-9]+|.|\n").matcher(good);
            while (m.find()) {
                parts.add(m.group());
            }
            for (int i = random.nextInt(3); i >= 0; i--) {
                int at = random.nextInt(parts.size() + 1);
                String odd = pick(pick(KEYS), pick(SOME), pick(KEYS), ";", "=", "<", "end;", "gap;", "odds 3;", "$", "A", "\t", "\u00ff", "12345", "00007",
                    "" + random.nextInt(120), "" + random.nextInt(12), "31", "\n", " ", "loop 2;", "crow z on ash for;", "when stands ash;");
                int how = random.nextInt(4);
                if (how == 0 || at == parts.size()) {
                    parts.add(at, " " + odd + " ");
                } else if (how == 1) {
                    parts.set(at, odd);
                } else if (how == 2) {
                    parts.remove(at);
                } else {
                    parts.addAll(at, new ArrayList<>(parts.subList(at, Math.min(parts.size(), at + 1 + random.nextInt(9)))));
                }
            }
            String text = String.join("", parts);
            return random.nextInt(6) == 0 ? text.substring(0, random.nextInt(text.length() + 1)) : text;
        }

        void put(int tray, int place, int v) {
            int[] args = {tray, place, v};
            due("write" + Arrays.toString(args), invoke("write", args), model.call("write", args));
        }

        /** A tray of threes that fit the wall, mostly. */
        void threes() {
            int tray = random.nextInt(4);
            boolean verdicts = random.nextBoolean();
            int many = 1 + random.nextInt(verdicts ? 6 : 8);
            int[] make = {tray, random.nextInt(4), 3 * many};
            due("tray", invoke("tray", make), model.call("tray", make));
            int guilt = random.nextInt(40);
            int kind = random.nextInt(1024) & random.nextInt(1024);
            int harsh = random.nextInt(1024) & random.nextInt(1024) & ~kind;
            for (int i = 0; i < many; i++) {
                int place = number(model.s.places.size());
                int other = number(model.s.places.size());
                int his = verdicts ? number(40) : guilt;
                boolean told = false;
                if (model.s.place(place)) {
                    told = verdicts ? byCuts(his, place, kind, harsh) : model.s.turns(other, his, place);
                }
                put(tray, 3 * i, verdicts ? his : place);
                put(tray, 3 * i + 1, verdicts ? place : other);
                put(tray, 3 * i + 2, random.nextInt(15) == 0 ? number(2) : told ? 1 : 0);
            }
            for (String name : new String[] {"fits", "fitsBy", "ask", "cuts", "cutOf"}) {
                int n = verdicts != name.startsWith("cut") ? 0 : random.nextInt(3) == 0 ? random.nextInt(many + 1) : many;
                int[] args = {tray, n, random.nextInt(Math.max(2, name.equals("cutOf") ? model.s.places.size() : 2))};
                int[] used = name.equals("fits") || name.equals("cuts") ? Arrays.copyOf(args, 2) : args;
                due(name + Arrays.toString(used), invoke(name, used), model.call(name, used));
            }
        }

        /** A verdict that holds by these cuts, so that a tray of them has a way. */
        boolean byCuts(int guilt, int place, int kind, int harsh) {
            int set = 0;
            for (int p = 0; p < model.s.places.size(); p++) {
                boolean turns = model.s.turns(p, guilt, place) && (kind >> p & 1) == 0 || (harsh >> p & 1) == 1;
                set |= model.s.stone(p) && turns ? 1 << p : 0;
            }
            return model.s.stone(place) && 2 * Integer.bitCount(set) > model.s.stones();
        }

        /** Mostly below a bound, sometimes at it or far away. */
        int number(int bound) {
            int how = random.nextInt(40);
            if (how == 0) {
                return new int[] {-1, -2, bound, bound + 1, Integer.MIN_VALUE, Integer.MAX_VALUE, 65536, 256}[random.nextInt(8)];
            }
            return random.nextInt(Math.max(1, bound));
        }

        int guilt() {
            return random.nextInt(3) == 0 ? number(100) : number(40);
        }

        int place() {
            return number(model.s.places.size());
        }

        void one() {
            String name = NAMES[random.nextInt(NAMES.length)];
            int[] args = arguments(name);
            due(name + Arrays.toString(args), invoke(name, args), model.call(name, args));
        }

        int[] arguments(String name) {
            int tray = number(4);
            switch (name) {
                case "tray": return new int[] {tray, number(4), number(61)};
                case "write": return new int[] {tray, number(20), random.nextInt(3) == 0 ? random.nextInt() : number(60)};
                case "read": return new int[] {tray, number(20)};
                case "pour": return new int[] {tray, number(20), number(4), number(20), number(15)};
                case "many": return new int[] {number(10)};
                case "stone": return new int[] {place(), number(5)};
                case "crow": return new int[] {number(model.s.crows.size()), number(2)};
                case "copyMoss": return new int[] {tray};
                case "judge": return new int[] {guilt(), place(), random.nextInt(2)};
                case "year": return new int[] {random.nextInt(3) == 0 ? number(100) : number(4)};
                case "carve": return new int[] {place(), number(31)};
                case "clear":
                case "least":
                case "open": return new int[] {place()};
                case "mend": return new int[] {place(), number(31), number(10)};
                case "fly": return new int[] {number(model.s.crows.size()), place()};
                case "hatch": return new int[] {place(), random.nextInt(2)};
                case "rule": return new int[] {number(17)};
                case "far":
                case "mercy":
                case "walk": return new int[] {place(), place()};
                case "walkAt": return new int[] {place(), place(), number(5)};
                case "turned":
                case "verdict":
                case "windows":
                case "windowSet":
                case "freeIn": return new int[] {guilt(), place()};
                case "stand":
                case "fall": return new int[] {guilt()};
                case "fits": return new int[] {tray, number(3)};
                case "cuts": return new int[] {tray, number(3)};
                case "fitsBy":
                case "ask": return new int[] {tray, number(3), number(2)};
                case "cutOf": return new int[] {tray, number(3), place()};
                case "game":
                case "moveOf": return new int[] {guilt(), place(), number(5)};
                case "lot": return new int[] {guilt(), number(2)};
                case "couples": return new int[] {number(11)};
                case "live": return new int[] {number(10000)};
                case "lived": return new int[] {number(5)};
                case "mean": return new int[] {number(10000), number(21)};
                default: return new int[0];
            }
        }

        static long of(boolean answer) {
            return answer ? 1 : -1;
        }

        long invoke(String name, int[] v) {
            switch (name) {
                case "tray": return of(court.tray(v[0], v[1], v[2]));
                case "write": return of(court.write(v[0], v[1], wide(v[2])));
                case "read": return court.read(v[0], v[1]);
                case "pour": return of(court.pour(v[0], v[1], v[2], v[3], v[4]));
                case "many": return court.many(v[0]);
                case "stone": return court.stone(v[0], v[1]);
                case "crow": return court.crow(v[0], v[1]);
                case "copyMoss": return court.copyMoss(v[0]);
                case "judge": return court.judge(v[0], v[1], v[2] == 1);
                case "year": return court.year(v[0]);
                case "carve": return court.carve(v[0], v[1]);
                case "clear": return court.clear(v[0]);
                case "open": return of(court.open(v[0]));
                case "mend": return of(court.mend(v[0], v[1], v[2]));
                case "fly": return court.fly(v[0], v[1]);
                case "hatch": return court.hatch(v[0], v[1] == 1);
                case "rule": return of(court.rule(v[0]));
                case "far": return court.far(v[0], v[1]);
                case "mercy": return court.mercy(v[0], v[1]);
                case "turned": return court.turned(v[0], v[1]);
                case "verdict": return court.verdict(v[0], v[1]);
                case "stand": return court.stand(v[0]);
                case "fall": return court.fall(v[0]);
                default: return invokeMore(name, v);
            }
        }

        long invokeMore(String name, int[] v) {
            switch (name) {
                case "least": return court.least(v[0]);
                case "freeIn": return court.freeIn(v[0], v[1]);
                case "fits": return court.fits(v[0], v[1]);
                case "fitsBy": return court.fitsBy(v[0], v[1], v[2]);
                case "ask": return court.ask(v[0], v[1], v[2]);
                case "cuts": return court.cuts(v[0], v[1]);
                case "cutOf": return court.cutOf(v[0], v[1], v[2]);
                case "windows": return court.windows(v[0], v[1]);
                case "windowSet": return court.windowSet(v[0], v[1]);
                case "walk": return court.walk(v[0], v[1]);
                case "walkAt": return court.walkAt(v[0], v[1], v[2]);
                case "longest": return court.longest();
                case "game": return court.game(v[0], v[1], v[2]);
                case "moveOf": return court.moveOf(v[0], v[1], v[2]);
                case "lot": return of(court.lot(v[0], v[1]));
                case "couples": return of(court.couples(v[0]));
                case "live": return court.live(v[0]);
                case "lived": return court.lived(v[0]);
                case "mean": return of(court.mean(v[0], v[1]));
                case "mark": return court.mark();
                case "back": return court.back();
                default: throw new IllegalStateException(name);
            }
        }
    }
}
