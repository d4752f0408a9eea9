import java.util.ArrayDeque;
import java.util.ArrayList;
import java.util.Arrays;
import java.util.List;
import java.util.NoSuchElementException;
import java.util.Random;
import java.util.TreeSet;
import java.util.function.LongSupplier;

/**
 * Plays random calls on InsultRow and on a second, slow model of the document that is written another
 * way (a recursive reader, sets, all orders and all ways of mocking tried), and compares each answer.
 */
public final class ModelTest {
    private static int wrong = 0;

    public static void main(String[] args) {
        for (int seed = 0; seed < 1500; seed++) {
            new Play(seed).run();
        }
        for (int seed = 0; seed < 6000; seed++) {
            readFaultyText(new Random(seed * 7919L + 13));
        }
        for (int seed = 0; seed < 20000; seed++) {
            readLaw(new Random(seed * 104729L + 5));
        }
        for (int seed = 0; seed < 6000; seed++) {
            readManyLines(new Random(seed * 15485863L + 3));
        }
        if (wrong != 0) {
            System.out.println(wrong + " answers of ModelTest are not as due");
            System.exit(1);
        }
    }

    static String answerOf(LongSupplier call) {
        try {
            return Long.toString(call.getAsLong());
        } catch (IllegalArgumentException | IllegalStateException | NoSuchElementException
                | IndexOutOfBoundsException e) {
            return e.getClass().getSimpleName();
        }
    }

    static void due(String call, String got, String want) {
        if (!got.equals(want)) {
            wrong++;
            if (wrong < 40) {
                System.out.println(call + " answered " + got + ", due is " + want);
            }
        }
    }

    static void readFaultyText(Random random) {
        StringBuilder text = new StringBuilder(Texts.carnival(random));
        String signs = ";+-*()[]=<> \nabz0123456789,$";
        int edits = 1 + random.nextInt(3);
        for (int i = 0; i < edits && text.length() > 0; i++) {
            int at = random.nextInt(text.length());
            char sign = signs.charAt(random.nextInt(signs.length()));
            int sort = random.nextInt(4);
            if (sort == 0) {
                text.setCharAt(at, sign);
            } else if (sort == 1) {
                text.insert(at, sign);
            } else if (sort == 2) {
                text.deleteCharAt(at);
            } else {
                text.setLength(at);
            }
        }
        if (text.length() > 880) {
            text.setLength(880);
        }
        compareTold(text.toString(), new InsultRow(), new Model());
    }

    /** What is told, found faulty or taken, of one text. */
    static void compareTold(String text, InsultRow x, Model m) {
        feed(x, m, text);
        int n = text.length();
        String shown = text.replace('\n', '_');
        due("carnival of " + shown, answerOf(() -> x.carnival(n)), answerOf(() -> m.carnival(n)));
        for (int what = 0; what < 2; what++) {
            due("fault(" + what + ") of " + shown, "" + x.fault(what), "" + m.fault(what));
        }
        for (int what = 0; what < 10; what++) {
            due("count(" + what + ") of " + shown, "" + x.count(what), "" + m.count(what));
        }
    }

    /** A law of parts that go up to eight deep, some of them changed, and whom it lets mock whom. */
    static void readLaw(Random r) {
        List<String> law = new ArrayList<>();
        Laws.truth(r, law, 0);
        String[] parts = {"not", "[", "]", "(", ")", "and", "or", "=", "<", ">", "+", "-", "*", ";", "7", "ra", "mb",
            "night", "guild", "?", "1000"};
        for (int edits = r.nextInt(3); edits > 0 && !law.isEmpty(); edits--) {
            int at = r.nextInt(law.size());
            int sort = r.nextInt(3);
            if (sort > 0) law.remove(at);
            if (sort < 2) law.add(at, parts[r.nextInt(parts.length)]);
        }
        String text = "guild rank 3;guild rank 7 long 2;guild long 9;mocks 0 1;mocks 1 0;mocks 2 1;may "
                + String.join(r.nextBoolean() ? " " : "\n", law) + ";";
        if (text.length() > 900) return;
        InsultRow x = new InsultRow();
        Model m = new Model();
        compareTold(text, x, m);
        for (int k = 0; k < 9; k++) {
            int a = k / 3;
            int b = k % 3;
            due("may(" + a + "," + b + ") of " + text, answerOf(() -> x.may(a, b) ? 1 : 0), answerOf(() -> m.may(a, b) ? 1 : 0));
        }
    }

    /** Short lines of all sorts, at times too many of one, and parts changed. */
    static void readManyLines(Random r) {
        List<String> text = new ArrayList<>();
        String[] lines = {"guild ;", "guild rank 9 ;", "guild loud 9 loud 3 ;", "street east 20 ;", "street north 1 ;",
            "mocks 0 1 ;", "mocks 1 0 ;", "mocks 2 1 ;", "may ra < rb ;", "answers mutual = 1 ;"};
        int bound = 2 + r.nextInt(lines.length - 1);
        for (int i = r.nextInt(45); i > 0; i--) {
            int pick = i > 35 ? 0 : r.nextInt(bound);
            text.addAll(Arrays.asList(lines[pick].split(" ")));
        }
        String[] parts = {";", "guild", "mocks", "street", "north", "west", "rank", "melts", "may", "0", "1", "2", "9", "10",
            "20", "21", "99", "100", "(", "=", "word", "?", "0000"};
        for (int edits = r.nextInt(3); edits > 0 && !text.isEmpty(); edits--) {
            int at = r.nextInt(text.size());
            int sort = r.nextInt(3);
            if (sort > 0) text.remove(at);
            if (sort < 2) text.add(at, parts[r.nextInt(parts.length)]);
        }
        String all = String.join(" ", text);
        if (all.length() <= 900) compareTold(all, new InsultRow(), new Model());
    }

    /** Random laws by the parts they are made of, deeper than a text may go. */
    static final class Laws {
        static void truth(Random r, List<String> law, int deep) {
            unit(r, law, deep);
            while (r.nextInt(4) == 0) {
                law.add(r.nextBoolean() ? "and" : "or");
                unit(r, law, deep);
            }
        }

        private static void unit(Random r, List<String> law, int deep) {
            int sort = deep < 8 ? r.nextInt(4) : 3;
            if (sort == 0) {
                law.add("not");
                unit(r, law, deep + 1);
            } else if (sort == 1) {
                law.add("[");
                truth(r, law, deep + 1);
                law.add("]");
            } else {
                sum(r, law, deep);
                law.add("" + "=<>".charAt(r.nextInt(3)));
                sum(r, law, deep);
            }
        }

        private static void sum(Random r, List<String> law, int deep) {
            atom(r, law, deep);
            while (r.nextInt(4) == 0) {
                law.add("" + "+-*".charAt(r.nextInt(3)));
                atom(r, law, deep);
            }
        }

        private static void atom(Random r, List<String> law, int deep) {
            String[] words = {"ra", "rb", "la", "lb", "ma", "mb", "mutual", "night"};
            if (deep < 8 && r.nextInt(4) == 0) {
                law.add("(");
                sum(r, law, deep + 1);
                law.add(")");
            } else {
                law.add(r.nextInt(3) == 0 ? "" + r.nextInt(r.nextBoolean() ? 5 : 1000) : words[r.nextInt(words.length)]);
            }
        }
    }

    static void feed(InsultRow x, Model m, String text) {
        for (int at = 0; at < text.length(); at += 20) {
            int[] a = new int[5];
            for (int i = 0; i < 20; i++) {
                int sign = at + i < text.length() ? text.charAt(at + i) : ' ';
                a[i / 4] = a[i / 4] << 8 | sign & 255;
            }
            due("feed", "" + x.feed(a[0], a[1], a[2], a[3], a[4]), "" + m.feed(a[0], a[1], a[2], a[3], a[4]));
        }
    }

    /** Random texts of carnivals that have no fault. */
    static final class Texts {
        static String carnival(Random r) {
            StringBuilder t = new StringBuilder();
            int guilds = r.nextInt(8) == 0 ? r.nextInt(3) : 2 + r.nextInt(9);
            for (int g = 0; g < guilds; g++) {
                t.append("guild");
                flag(t, r, "rank", 0, r.nextBoolean() ? 4 : 99);
                flag(t, r, "long", 1, 9);
                flag(t, r, "loud", 0, 9);
                flag(t, r, "verse", 0, 9);
                flag(t, r, "melts", 1, 30);
                t.append(r.nextInt(3) == 0 ? " ;\n" : ";");
            }
            int mocks = guilds < 2 ? 0 : r.nextInt(guilds + 3);
            for (int i = 0; i < mocks; i++) {
                int a = r.nextInt(guilds);
                int b = (a + 1 + r.nextInt(guilds - 1)) % guilds;
                t.append("mocks ").append(a).append(' ').append(b).append(';');
            }
            int streets = r.nextInt(8);
            for (int i = 0; i < streets; i++) {
                String[] ways = {"north", "east", "south", "west"};
                t.append("street ").append(ways[r.nextInt(4)]).append(' ').append(1 + r.nextInt(5)).append(';');
            }
            if (r.nextInt(3) > 0) {
                t.append("answers ").append(truth(r, 0, new int[1])).append(';');
            }
            if (r.nextInt(3) == 0) {
                t.append("may ").append(truth(r, 0, new int[1])).append(';');
            }
            return t.length() > 860 ? carnival(r) : t.toString();
        }

        private static void flag(StringBuilder t, Random r, String word, int least, int most) {
            if (r.nextInt(3) == 0) {
                t.append(' ').append(word).append(' ').append(least + r.nextInt(most - least + 1));
            }
        }

        static String truth(Random r, int deep, int[] many) {
            StringBuilder t = new StringBuilder(unit(r, deep, many));
            while (r.nextInt(3) == 0 && many[0] < 8) {
                t.append(r.nextBoolean() ? " and " : " or ").append(unit(r, deep, many));
            }
            return t.toString();
        }

        private static String unit(Random r, int deep, int[] many) {
            many[0]++;
            int sort = deep < 6 && many[0] < 8 ? r.nextInt(8) : 7;
            if (sort == 0) {
                return "not " + unit(r, deep + 1, many);
            }
            if (sort == 1) {
                return "[" + truth(r, deep + 1, many) + "]";
            }
            return sum(r, deep) + "=<>".charAt(r.nextInt(3)) + sum(r, deep);
        }

        private static String sum(Random r, int deep) {
            StringBuilder t = new StringBuilder(atom(r, deep));
            while (r.nextInt(4) == 0) {
                t.append(" +-*".charAt(1 + r.nextInt(3))).append(atom(r, deep));
            }
            return t.toString();
        }

        private static String atom(Random r, int deep) {
            String[] words = {"ra", "rb", "la", "lb", "ma", "mb", "mutual", "night"};
            if (deep < 6 && r.nextInt(10) == 0) {
                return "(" + sum(r, deep + 1) + ")";
            }
            return r.nextInt(4) == 0 ? Integer.toString(r.nextInt(r.nextBoolean() ? 4 : 1000))
                    : words[r.nextInt(words.length)];
        }
    }

    /** One run of random calls. */
    static final class Play {
        final Random r;
        final int seed;
        final InsultRow x = new InsultRow();
        final Model m = new Model();
        final StringBuilder log = new StringBuilder();

        Play(int seed) {
            this.seed = seed;
            r = new Random(seed);
        }

        void run() {
            tell();
            for (int i = 0; i < 120; i++) {
                call();
            }
        }

        void tell() {
            String text = Texts.carnival(r);
            feed(x, m, text);
            log.append('\n').append(text.replace('\n', '_'));
            check("carnival(" + text.length() + ")", () -> x.carnival(text.length()), () -> m.carnival(text.length()));
        }

        void check(String call, LongSupplier got, LongSupplier want) {
            int before = wrong;
            String answer = answerOf(got);
            log.append('\n').append(call).append(" = ").append(answer);
            due("seed " + seed + ": " + call, answer, answerOf(want));
            if (wrong != before && before < 2) {
                System.out.println(log);
            }
        }

        int one() {
            int n = m.n;
            return r.nextInt(12) == 0 || n == 0 ? r.nextInt(13) - 1 : r.nextInt(n);
        }

        int in(int least, int most) {
            int sort = r.nextInt(12);
            if (sort == 0) {
                return least - 1;
            }
            if (sort == 1) {
                return most + 1;
            }
            if (sort == 2) {
                return least;
            }
            return sort == 3 ? most : least + r.nextInt(most - least + 1);
        }

        void call() {
            int g = one();
            int h = one();
            int t = in(0, 3);
            switch (r.nextInt(46)) {
                case 0: { if (r.nextInt(4) == 0) tell(); break; }
                case 1: { int w = in(0, 6); check("guild(" + g + "," + w + ")", () -> x.guild(g, w), () -> m.guild(g, w)); break; }
                case 2: check("may(" + g + "," + h + ")", () -> x.may(g, h) ? 1 : 0, () -> m.may(g, h) ? 1 : 0); break;
                case 3: check("tomorrow(" + g + ")", () -> x.tomorrow(g), () -> m.tomorrow(g)); break;
                case 4: { int k = in(0, m.count(3) - 1); int w = in(0, 1);
                    check("step(" + k + "," + w + ")", () -> x.step(k, w), () -> m.step(k, w)); break; }
                case 5: case 6: case 7: check("mock(" + g + "," + h + ")", () -> x.mock(g, h), () -> m.mock(g, h)); break;
                case 8: check("spare(" + g + ")", () -> x.spare(g), () -> m.spare(g)); break;
                case 9: { int n = in(0, 99); check("rank(" + g + "," + n + ")", () -> x.rank(g, n), () -> m.rank(g, n)); break; }
                case 10: { int n = r.nextBoolean() ? 1 : in(1, 60); check("nights(" + n + ")", () -> x.nights(n), () -> m.nights(n)); break; }
                case 11: { int n = in(1, 4); check("undo(" + n + ")", () -> x.undo(n), () -> m.undo(n)); break; }
                case 12: { int w = in(0, 3); check("judge(" + t + "," + w + ")", () -> x.judge(t, w), () -> m.judge(t, w)); break; }
                case 13: check("perform(" + t + ")", () -> x.perform(t), () -> m.perform(t)); break;
                case 14: { int s = r.nextInt(); int n = in(1, 30); check("week(" + s + "," + n + ")", () -> x.week(s, n), () -> m.week(s, n)); break; }
                case 15: check("ringed()", () -> x.ringed(), () -> m.ringed()); break;
                case 16: { boolean shut = r.nextBoolean(); check("rings(" + shut + ")", () -> x.rings(shut), () -> m.rings(shut)); break; }
                case 17: check("cakes()", () -> x.cakes(), () -> m.cakes()); check("chains()", () -> x.chains(), () -> m.chains()); break;
                case 18: case 19: { for (int i = -1; i < 22; i++) { int k = i; check("walks(" + k + ")", () -> x.walks(k), () -> m.walks(k)); } break; }
                case 20: check("place(" + g + ")", () -> x.place(g), () -> m.place(g)); break;
                case 21: check("length()", () -> x.length(), () -> m.length()); break;
                case 22: { int w = in(0, 1); check("persuaded(" + w + ")", () -> x.persuaded(w), () -> m.persuaded(w)); break; }
                case 23: { int w = in(0, 1); check("peace(" + w + ")", () -> x.peace(w), () -> m.peace(w)); break; }
                case 24: check("goat()", () -> x.goat(), () -> m.goat()); break;
                case 25: check("below(" + g + ")", () -> x.below(g), () -> m.below(g)); break;
                case 26: check("cakesOf(" + g + ")", () -> x.cakesOf(g), () -> m.cakesOf(g)); break;
                case 27: check("chainOf(" + g + ")", () -> x.chainOf(g), () -> m.chainOf(g)); check("longest()", () -> x.longest(), () -> m.longest()); break;
                case 28: check("freeFor(" + g + ")", () -> x.freeFor(g), () -> m.freeFor(g)); break;
                case 29: { int n = in(0, 60); check("at(" + g + "," + n + ")", () -> x.at(g, n), () -> m.at(g, n)); break; }
                case 30: check("arrives(" + g + ")", () -> x.arrives(g), () -> m.arrives(g)); break;
                case 31: check("meets(" + g + "," + h + ")", () -> x.meets(g, h), () -> m.meets(g, h)); break;
                case 32: check("bows()", () -> x.bows(), () -> m.bows()); break;
                case 33: { int a = r.nextInt(9) == 0 ? in(0, 999) : in(0, 40); int n = r.nextInt(9) == 0 ? in(0, 999) : in(0, 40);
                    check("melted(" + a + "," + n + ")", () -> x.melted(a, n), () -> m.melted(a, n)); break; }
                case 34: check("noise()", () -> x.noise(), () -> m.noise()); break;
                case 35: { int set = r.nextInt(12) == 0 ? in(0, 2000) : r.nextInt(1 << m.n);
                    int w = r.nextInt(3) == 0 ? in(0, 0) : in(10, 17); check("quietest(" + set + "," + w + ")", () -> x.quietest(set, w), () -> m.quietest(set, w)); break; }
                case 36: { int w = in(0, 1); check("comesBack(" + w + ")", () -> x.comesBack(w), () -> m.comesBack(w)); break; }
                case 37: { int n = r.nextBoolean() ? in(0, 9) : in(0, 1000); check("mocksIn(" + g + "," + n + ")", () -> x.mocksIn(g, n), () -> m.mocksIn(g, n)); break; }
                case 38: sight(); check("seen(3)", () -> x.seen(3), () -> m.seen(3)); break;
                case 39: { int n = r.nextBoolean() ? in(0, 9) : in(0, 1000); check("ever(" + g + "," + n + ")", () -> x.ever(g, n), () -> m.ever(g, n)); break; }
                case 40: { int n = in(0, 200); int w = in(0, 1); check("fewest(" + n + "," + w + ")", () -> x.fewest(n, w), () -> m.fewest(n, w)); break; }
                case 41: { int s = in(0, 3); int n = in(0, 30); check("tray(" + t + "," + s + "," + n + ")", () -> { x.tray(t, s, n); return 0; }, () -> { m.tray(t, s, n); return 0; }); break; }
                case 42: fillTray(t); break;
                case 43: check("copy(" + t + ")", () -> x.copy(t), () -> m.copy(t)); check("seen(" + t + ")", () -> x.seen(t), () -> m.seen(t)); break;
                case 44: { int i = in(0, 2); check("image(" + i + ")", () -> { x.image(i); return 0; }, () -> { m.image(i); return 0; }); break; }
                default: { int i = in(0, 2); if (r.nextBoolean()) check("restore(" + i + ")", () -> { x.restore(i); return 0; }, () -> { m.restore(i); return 0; });
                    for (int k = -1; k < 11; k++) { int w = k; check("count(" + w + ")", () -> x.count(w), () -> m.count(w)); } }
            }
        }

        void fillTray(int t) {
            int places = 1 + r.nextInt(12);
            if (r.nextInt(4) > 0) {
                int sort = r.nextInt(4);
                check("tray(" + t + "," + sort + "," + places + ")", () -> { x.tray(t, sort, places); return 0; }, () -> { m.tray(t, sort, places); return 0; });
            }
            for (int i = 0; i < places; i++) {
                int p = r.nextInt(20) == 0 ? in(0, 30) : i;
                int b = r.nextInt(4) == 0 ? 99 : one();
                long v = r.nextInt(5) == 0 ? -1 : r.nextInt(20) == 0 ? r.nextLong() >> r.nextInt(60) : 100L * Math.max(0, one()) + b;
                check("write(" + t + "," + p + "," + v + ")", () -> x.write(t, p, v), () -> m.write(t, p, v));
            }
        }

        /** What will be seen after some nights, some of it hidden, sometimes changed. */
        void sight() {
            int many = r.nextInt(10) == 0 ? in(0, 10) : m.n;
            check("tray(3,2," + many + ")", () -> { x.tray(3, 2, many); return 0; }, () -> { m.tray(3, 2, many); return 0; });
            int nights = r.nextInt(4);
            for (int g = 0; g < many && g < m.n; g++) {
                int mocked = m.mocksIn(g, nights);
                int sort = r.nextInt(20);
                long v = sort == 0 ? in(0, 12) : sort < 6 ? -1 : mocked < 0 ? 99 : mocked;
                int p = g;
                check("write(3," + p + "," + v + ")", () -> x.write(3, p, v), () -> m.write(3, p, v));
            }
        }
    }

    static final class Fault extends RuntimeException {
        private static final long serialVersionUID = 1L;
        final int kind;
        final int at;

        Fault(int kind, int at) {
            this.kind = kind;
            this.at = at;
        }
    }

    interface Sum {
        int of(Model m, int a, int b);
    }

    interface Truth {
        boolean of(Model m, int a, int b);
    }

    /** Reads by going down the grammar. */
    static final class Told {
        final String text;
        final List<String> tokens = new ArrayList<>();
        final List<Integer> starts = new ArrayList<>();
        int next;
        int deep;
        int lines;
        int n;
        int[][] flags = new int[10][5];
        int[] whom = new int[10];
        List<int[]> way = new ArrayList<>();
        int streets;
        Truth may;
        Truth answers;

        Told(String text) {
            this.text = text;
            Arrays.fill(whom, -1);
            way.add(new int[] {0, 0});
            split();
            while (!peek().equals("")) {
                line();
                lines++;
            }
        }

        /** A token that begins as none is kept as "?", since a fault may come ahead of it. */
        void split() {
            int i = 0;
            while (i < text.length()) {
                char c = text.charAt(i);
                if (c == ' ' || c == '\n') {
                    i++;
                    continue;
                }
                int from = i;
                String token;
                if (c >= 'a' && c <= 'z') {
                    while (i < text.length() && text.charAt(i) >= 'a' && text.charAt(i) <= 'z') i++;
                    token = text.substring(from, i);
                } else if (c >= '0' && c <= '9') {
                    while (i < text.length() && text.charAt(i) >= '0' && text.charAt(i) <= '9') i++;
                    token = i - from > 3 ? "?" : text.substring(from, i);
                } else {
                    i++;
                    token = ";+-*()[]=<>".indexOf(c) >= 0 ? "" + c : "?";
                }
                tokens.add(token);
                starts.add(from);
            }
            tokens.add("");
            starts.add(text.length());
        }

        String peek() {
            return tokens.get(next);
        }

        RuntimeException bad(int kind) {
            return new Fault(peek().equals("?") ? 1 : kind, starts.get(next));
        }

        void need(String token) {
            if (!peek().equals(token)) throw bad(2);
            next++;
        }

        boolean take(String token) {
            if (!peek().equals(token)) return false;
            next++;
            return true;
        }

        int number(int least, int most, int not) {
            if (peek().isEmpty() || !Character.isDigit(peek().charAt(0))) throw bad(2);
            int v = Integer.parseInt(peek());
            if (v < least || v > most || v == not) throw bad(3);
            next++;
            return v;
        }

        void line() {
            switch (peek()) {
                case "guild": guildLine(); break;
                case "mocks": {
                    next++;
                    int a = number(0, n - 1, -1);
                    int b = number(0, n - 1, a);
                    need(";");
                    whom[a] = b;
                    break;
                }
                case "may": next++; may = truth(); need(";"); break;
                case "answers": next++; answers = truth(); need(";"); break;
                case "street": streetLine(); break;
                default: throw bad(2);
            }
        }

        void guildLine() {
            if (n == 10) throw bad(4);
            next++;
            int g = n++;
            flags[g][1] = 1;
            while (!take(";")) {
                int f = Arrays.asList("rank", "long", "loud", "verse", "melts").indexOf(peek());
                if (f < 0) throw bad(2);
                next++;
                int[] least = {0, 1, 0, 0, 1};
                int[] most = {99, 9, 9, 9, 99};
                flags[g][f] = number(least[f], most[f], -1);
            }
        }

        void streetLine() {
            if (streets == 12) throw bad(4);
            next++;
            int w = Arrays.asList("north", "east", "south", "west").indexOf(peek());
            if (w < 0) throw bad(2);
            next++;
            int k = number(1, 20, -1);
            need(";");
            streets++;
            for (int i = 0; i < k; i++) {
                int[] last = way.get(way.size() - 1);
                way.add(new int[] {last[0] + (w == 1 ? 1 : w == 3 ? -1 : 0), last[1] + (w == 0 ? 1 : w == 2 ? -1 : 0)});
            }
        }

        Truth truth() {
            Truth t = both();
            while (take("or")) {
                Truth l = t;
                Truth r = both();
                t = (m, a, b) -> l.of(m, a, b) || r.of(m, a, b);
            }
            return t;
        }

        Truth both() {
            Truth t = unit();
            while (take("and")) {
                Truth l = t;
                Truth r = unit();
                t = (m, a, b) -> l.of(m, a, b) && r.of(m, a, b);
            }
            return t;
        }

        void deeper() {
            if (deep == 6) throw bad(4);
            next++;
            deep++;
        }

        Truth unit() {
            if (peek().equals("not")) {
                deeper();
                Truth t = unit();
                deep--;
                return (m, a, b) -> !t.of(m, a, b);
            }
            if (peek().equals("[")) {
                deeper();
                Truth t = truth();
                need("]");
                deep--;
                return t;
            }
            Sum l = sum();
            String c = peek();
            if (!c.equals("=") && !c.equals("<") && !c.equals(">")) throw bad(2);
            next++;
            Sum r = sum();
            return (m, a, b) -> {
                int d = Integer.compare(l.of(m, a, b), r.of(m, a, b));
                return c.equals("=") ? d == 0 : c.equals("<") ? d < 0 : d > 0;
            };
        }

        static int kept(long v) {
            return (int) Math.max(-1000000L, Math.min(1000000L, v));
        }

        Sum sum() {
            Sum s = term();
            while (peek().equals("+") || peek().equals("-")) {
                int sign = tokens.get(next++).equals("+") ? 1 : -1;
                Sum l = s;
                Sum r = term();
                s = (m, a, b) -> kept((long) l.of(m, a, b) + sign * r.of(m, a, b));
            }
            return s;
        }

        Sum term() {
            Sum s = atom();
            while (take("*")) {
                Sum l = s;
                Sum r = atom();
                s = (m, a, b) -> kept((long) l.of(m, a, b) * r.of(m, a, b));
            }
            return s;
        }

        Sum atom() {
            String t = peek();
            if (t.equals("(")) {
                deeper();
                Sum s = sum();
                need(")");
                deep--;
                return s;
            }
            if (!t.isEmpty() && Character.isDigit(t.charAt(0))) {
                next++;
                int v = Integer.parseInt(t);
                return (m, a, b) -> v;
            }
            Sum s;
            switch (t) {
                case "ra": s = (m, a, b) -> m.rank[a]; break;
                case "rb": s = (m, a, b) -> m.rank[b]; break;
                case "la": s = (m, a, b) -> m.told.flags[a][1]; break;
                case "lb": s = (m, a, b) -> m.told.flags[b][1]; break;
                case "ma": s = (m, a, b) -> m.mockers(a).size(); break;
                case "mb": s = (m, a, b) -> m.mockers(b).size(); break;
                case "mutual": s = (m, a, b) -> m.whom[b] == a ? 1 : 0; break;
                case "night": s = (m, a, b) -> m.night % 1000; break;
                default: throw bad(2);
            }
            next++;
            return s;
        }
    }

    /** What a deed, an image and a trial go back to. */
    static final class Kept {
        final Told told;
        final int[] whom;
        final int[] rank;
        final int night;
        List<Kept> deeds;

        Kept(Model m) {
            told = m.told;
            whom = m.whom.clone();
            rank = m.rank.clone();
            night = m.night;
        }
    }

    /** The document once more, as slow as it likes. */
    static final class Model {
        Told told = new Told("");
        int n;
        int[] whom = new int[10];
        int[] rank = new int[10];
        int night;
        ArrayDeque<Kept> deeds = new ArrayDeque<>();
        final StringBuilder tape = new StringBuilder();
        int fault;
        int faultAt = -1;
        final Kept[] images = new Kept[3];
        final long[][] trays = new long[4][];
        final int[] sorts = new int[4];

        Model() {
            Arrays.fill(whom, -1);
        }

        int feed(int... ints) {
            if (tape.length() + 20 > 900) return -1;
            for (int i : ints) {
                for (int k = 3; k >= 0; k--) tape.append((char) (i >> 8 * k & 255));
            }
            return tape.length();
        }

        int carnival(int many) {
            if (many < 0 || many > tape.length()) throw new IllegalArgumentException();
            String text = tape.substring(0, many);
            tape.setLength(0);
            try {
                Told t = new Told(text);
                fault = 0;
                faultAt = -1;
                told = t;
                n = t.n;
                whom = t.whom.clone();
                for (int g = 0; g < n; g++) rank[g] = t.flags[g][0];
                night = 0;
                deeds.clear();
                return t.lines;
            } catch (Fault f) {
                fault = f.kind;
                faultAt = f.at;
                return -10 - f.kind;
            }
        }

        int fault(int what) {
            return what == 0 ? fault : what == 1 ? faultAt : -1;
        }

        void guildIs(int g) {
            if (g < 0 || g >= n) throw new NoSuchElementException();
        }

        void wrongIf(boolean bad) {
            if (bad) throw new IllegalArgumentException();
        }

        TreeSet<Integer> mockers(int g) {
            TreeSet<Integer> s = new TreeSet<>();
            for (int h = 0; h < n; h++) if (whom[h] == g) s.add(h);
            return s;
        }

        static int bits(Iterable<Integer> set) {
            int b = 0;
            for (int g : set) b |= 1 << g;
            return b;
        }

        int guild(int g, int what) {
            guildIs(g);
            wrongIf(what < 0 || what > 6);
            return what == 0 ? whom[g] : what == 1 ? rank[g] : what == 6 ? bits(mockers(g)) : told.flags[g][what - 1];
        }

        boolean may(int a, int b) {
            guildIs(a);
            guildIs(b);
            wrongIf(a == b);
            return told.may == null || told.may.of(this, a, b);
        }

        int tomorrow(int g) {
            guildIs(g);
            if (told.answers == null || mockers(g).isEmpty()) return whom[g];
            int b = mockers(g).first();
            return told.answers.of(this, g, b) ? b : whom[g];
        }

        int step(int k, int what) {
            if (k < 0 || k >= told.way.size()) throw new NoSuchElementException();
            wrongIf(what < 0 || what > 1);
            return told.way.get(k)[what];
        }

        void aNight() {
            int[] then = whom.clone();
            for (int g = 0; g < n; g++) then[g] = tomorrow(g);
            whom = then;
            night++;
        }

        void deed() {
            deeds.addLast(new Kept(this));
            if (deeds.size() > 10) deeds.removeFirst();
        }

        void back(Kept k) {
            told = k.told;
            n = told.n;
            whom = k.whom.clone();
            rank = k.rank.clone();
            night = k.night;
        }

        int why(long v) {
            if (v == -1) return 0;
            if (v < 0 || v / 100 >= n) return 1;
            int a = (int) (v / 100);
            int b = (int) (v % 100);
            if (b == 99) return 0;
            if (b >= n || a == b) return 1;
            return may(a, b) ? 0 : 2;
        }

        void act(long v) {
            if (v == -1) aNight();
            else whom[(int) (v / 100)] = v % 100 == 99 ? -1 : (int) (v % 100);
        }

        int mock(int a, int b) {
            if (a < 0 || a >= n || b < 0 || b >= n || a == b) return -1;
            if (!may(a, b)) return -2;
            deed();
            whom[a] = b;
            return mockers(b).size();
        }

        int spare(int g) {
            guildIs(g);
            deed();
            int was = whom[g];
            whom[g] = -1;
            return was;
        }

        int rank(int g, int v) {
            guildIs(g);
            wrongIf(v < 0 || v > 99);
            deed();
            int was = rank[g];
            rank[g] = v;
            return was;
        }

        int nights(int k) {
            wrongIf(k < 1 || k > 60);
            deed();
            int[] was = whom;
            for (int i = 0; i < k; i++) aNight();
            int d = 0;
            for (int g = 0; g < n; g++) if (was[g] != whom[g]) d++;
            return d;
        }

        int undo(int k) {
            wrongIf(k < 1 || k > 10 || k > deeds.size());
            for (int i = 0; i < k; i++) back(deeds.removeLast());
            return deeds.size();
        }

        long[] tray(int t) {
            if (t < 0 || t > 3) throw new NoSuchElementException();
            if (trays[t] == null) throw new IllegalStateException();
            return trays[t];
        }

        int judge(int t, int what) {
            long[] row = tray(t);
            wrongIf(what < 0 || what > 3);
            Kept now = new Kept(this);
            int i = 0;
            int why = 0;
            while (i < row.length && (why = why(row[i])) == 0) act(row[i++]);
            int mocking = count(5);
            int cakes = cakes();
            back(now);
            return what == 0 ? why == 0 ? -1 : i : what == 1 ? why : what == 2 ? mocking : cakes;
        }

        int perform(int t) {
            long[] row = tray(t);
            int i = 0;
            for (; i < row.length && why(row[i]) == 0; i++) {
                deed();
                act(row[i]);
            }
            return i;
        }

        int seed;

        int draw() {
            seed = seed * 1103515245 + 12345;
            return seed >>> 16;
        }

        int week(int s, int times) {
            wrongIf(times < 1 || times > 30);
            if (n == 0) throw new IllegalStateException();
            seed = s;
            int could = 0;
            for (int i = 0; i < times; i++) {
                int sort = draw() % 3;
                long v = -1;
                if (sort == 1) {
                    int a = draw() % n;
                    int b = draw() % n;
                    v = 100 * a + b;
                }
                if (sort == 2) v = 100 * (draw() % n) + 99;
                if (why(v) == 0) {
                    could++;
                    deed();
                    act(v);
                }
            }
            return could;
        }

        /** The ring of a guild, empty if it is in none. */
        TreeSet<Integer> ring(int g) {
            TreeSet<Integer> s = new TreeSet<>();
            int h = g;
            do {
                if (h < 0 || !s.add(h)) return new TreeSet<>();
                h = whom[h];
            } while (h != g);
            return s;
        }

        boolean shut(TreeSet<Integer> ring) {
            for (int g : ring) if (mockers(g).size() != 1) return false;
            return true;
        }

        int ringed() {
            TreeSet<Integer> s = new TreeSet<>();
            for (int g = 0; g < n; g++) s.addAll(ring(g));
            return bits(s);
        }

        int rings(boolean shut) {
            TreeSet<Integer> least = new TreeSet<>();
            for (int g = 0; g < n; g++) if (!ring(g).isEmpty() && (!shut || shut(ring(g)))) least.add(ring(g).first());
            return least.size();
        }

        int follower(int g) {
            TreeSet<Integer> by = mockers(g);
            TreeSet<Integer> ring = ring(g);
            if (by.isEmpty()) return -1;
            if (ring.isEmpty()) return by.first();
            if (shut(ring)) return g == ring.first() ? -1 : by.first();
            int open = -1;
            for (int h : ring.descendingSet()) if (mockers(h).size() > 1) open = h;
            TreeSet<Integer> inside = new TreeSet<>(by);
            inside.retainAll(ring);
            TreeSet<Integer> outside = new TreeSet<>(by);
            outside.removeAll(ring);
            return g == open ? outside.first() : inside.first();
        }

        List<List<Integer>> chainList() {
            List<List<Integer>> all = new ArrayList<>();
            for (int g = 0; g < n; g++) {
                if (whom[g] >= 0 && follower(whom[g]) == g) continue;
                List<Integer> chain = new ArrayList<>();
                if (whom[g] >= 0) chain.add(100 + whom[g]);
                for (int h = g; h >= 0; h = follower(h)) chain.add(h);
                all.add(chain);
            }
            return all;
        }

        List<Integer> row() {
            List<Integer> all = new ArrayList<>();
            for (List<Integer> c : chainList()) all.addAll(c);
            return all;
        }

        int cakes() {
            return (int) row().stream().filter(w -> w >= 100).count();
        }

        int chains() {
            return chainList().size();
        }

        int walks(int k) {
            wrongIf(k < 0);
            return k < row().size() ? row().get(k) : -1;
        }

        int place(int g) {
            guildIs(g);
            return row().indexOf(g);
        }

        int longOf(int w) {
            return w >= 100 ? 1 : told.flags[w][1];
        }

        int length() {
            return row().stream().mapToInt(this::longOf).sum();
        }

        int ahead(int g) {
            int s = 0;
            for (int w : row()) {
                if (w == g) break;
                s += longOf(w);
            }
            return s;
        }

        /** All ways of mocking tried for few guilds; else sets of kept ones tried. */
        int persuaded(int what) {
            wrongIf(what < 0 || what > 1);
            int best = (1 << n) - 1;
            int[] was = whom;
            if (n <= 5) {
                whom = was.clone();
                best = tryAll(was, 0, best);
                whom = was;
            } else {
                for (int set = 0; set < 1 << n; set++) {
                    int c = Integer.bitCount(set);
                    int cb = Integer.bitCount(best);
                    if ((c < cb || c == cb && set < best) && canLineUp(set)) best = set;
                }
            }
            return what == 0 ? Integer.bitCount(best) : best;
        }

        int tryAll(int[] was, int g, int best) {
            if (g == n) {
                if (cakes() != 0 || chains() > 1) return best;
                int set = 0;
                for (int h = 0; h < n; h++) if (whom[h] != was[h]) set |= 1 << h;
                int d = Integer.compare(Integer.bitCount(set), Integer.bitCount(best));
                return d < 0 || d == 0 && set < best ? set : best;
            }
            for (int h = -1; h < n; h++) {
                if (h == g) continue;
                whom[g] = h;
                best = tryAll(was, g + 1, best);
            }
            return best;
        }

        /** Those not in the set, walking as they do, make lines that can be put one behind the other. */
        boolean canLineUp(int set) {
            int[] was = whom;
            whom = was.clone();
            for (int g = 0; g < n; g++) if ((set >> g & 1) != 0) whom[g] = -1;
            boolean lines = cakes() == 0;
            whom = was;
            int leaders = 0;
            for (int g = 0; g < n; g++) if (whom[g] < 0 && (set >> g & 1) == 0) leaders++;
            return lines && leaders <= 1;
        }

        int peace(int what) {
            wrongIf(what < 0 || what > 1);
            int best = (1 << n) - 1;
            for (int set = (1 << n) - 1; set >= 0; set--) {
                if (Integer.bitCount(set) > Integer.bitCount(best)) continue;
                int[] was = whom;
                whom = was.clone();
                for (int g = 0; g < n; g++) if ((set >> g & 1) != 0) whom[g] = -1;
                if (rings(false) == 0) best = set;
                whom = was;
            }
            return what == 0 ? Integer.bitCount(best) : best;
        }

        int goat() {
            int best = -1;
            for (int g = n - 1; g >= 0; g--) {
                int c = mockers(g).size();
                if (c > 0 && (best < 0 || c >= mockers(best).size())) best = g;
            }
            return best;
        }

        int below(int g) {
            guildIs(g);
            TreeSet<Integer> s = new TreeSet<>();
            for (int h = whom[g]; h >= 0 && s.add(h); ) h = whom[h];
            s.remove(g);
            return s.size();
        }

        int cakesOf(int g) {
            guildIs(g);
            return (int) row().stream().filter(w -> w == 100 + g).count();
        }

        int chainOf(int g) {
            guildIs(g);
            for (List<Integer> c : chainList()) if (c.contains(g)) return (int) c.stream().filter(w -> w < 100).count();
            return -99;
        }

        int longest() {
            int best = 0;
            for (int g = 0; g < n; g++) best = Math.max(best, chainOf(g));
            return best;
        }

        int freeFor(int g) {
            guildIs(g);
            int now = cakes();
            int b = 0;
            for (int h = 0; h < n; h++) {
                if (h == g || !may(g, h)) continue;
                int was = whom[g];
                whom[g] = h;
                if (cakes() <= now) b |= 1 << h;
                whom[g] = was;
            }
            return b;
        }

        int at(int g, int minute) {
            guildIs(g);
            wrongIf(minute < 0);
            int s = minute - ahead(g);
            return s < 0 || s >= told.way.size() ? -1 : s;
        }

        int arrives(int g) {
            guildIs(g);
            int minute = ahead(g);
            while (at(g, minute) >= 0) minute++;
            return minute;
        }

        boolean meet(int g, int h, int minute, int[] ahead) {
            int i = minute - ahead[g];
            int j = minute - ahead[h];
            if (i < 0 || j < 0 || i >= told.way.size() || j >= told.way.size()) return false;
            int[] p = told.way.get(i);
            int[] q = told.way.get(j);
            int dx = Math.abs(p[0] - q[0]);
            int dy = Math.abs(p[1] - q[1]);
            boolean near = dx == 0 && dy == 0 || dx == 1 && dy == 0 || dx == 0 && dy == 1;
            return near && Math.abs(i - j) >= 3;
        }

        int[] aheads() {
            int[] a = new int[n];
            for (int g = 0; g < n; g++) a[g] = ahead(g);
            return a;
        }

        int meets(int g, int h) {
            guildIs(g);
            guildIs(h);
            wrongIf(g == h);
            int[] a = aheads();
            for (int minute = 0; minute < 500; minute++) if (meet(g, h, minute, a)) return minute;
            return -1;
        }

        int bows() {
            int[] a = aheads();
            TreeSet<Integer> minutes = new TreeSet<>();
            for (int g = 0; g < n; g++) for (int h = 0; h < g; h++) for (int minute = 0; minute < 500; minute++) {
                if (meet(g, h, minute, a)) minutes.add(minute);
            }
            return minutes.size();
        }

        int melted(int minute, int many) {
            wrongIf(minute < 0 || minute > 999 || many < 0 || many > 999);
            int[] ahead = aheads();
            int b = 0;
            for (int g = 0; g < n; g++) {
                int wet = 0;
                for (int i = minute; i < minute + many; i++) if (i >= ahead[g] && i < ahead[g] + told.way.size()) wet++;
                if (told.flags[g][4] > 0 && wet >= told.flags[g][4]) b |= 1 << g;
            }
            return b;
        }

        int between(int a, int b) {
            return told.flags[a][2] * told.flags[b][3];
        }

        int noise() {
            int s = 0;
            for (List<Integer> chain : chainList()) for (int i = 1; i < chain.size(); i++) {
                if (chain.get(i - 1) < 100) s += between(chain.get(i - 1), chain.get(i));
            }
            return s;
        }

        int bestNoise;
        int[] bestOrder;

        int quietest(int set, int what) {
            wrongIf(set < 0 || set >= 1 << n || Integer.bitCount(set) > 8);
            wrongIf(what != 0 && (what < 10 || what > 17));
            bestNoise = Integer.MAX_VALUE;
            orders(set, new int[Integer.bitCount(set)], 0, 0);
            return what == 0 ? bestNoise : what - 10 < bestOrder.length ? bestOrder[what - 10] : -1;
        }

        void orders(int set, int[] order, int k, int noise) {
            if (k == order.length) {
                if (noise < bestNoise) {
                    bestNoise = noise;
                    bestOrder = order.clone();
                }
                return;
            }
            for (int g = 0; g < n; g++) {
                if ((set >> g & 1) == 0) continue;
                order[k] = g;
                orders(set & ~(1 << g), order, k + 1, k == 0 ? 0 : noise + between(order[k - 1], g));
            }
        }

        List<int[]> ahead(int nights, boolean untilAgain) {
            Kept now = new Kept(this);
            List<int[]> all = new ArrayList<>();
            all.add(whom.clone());
            for (int i = 0; i < nights; i++) {
                aNight();
                all.add(whom.clone());
                if (untilAgain && again(all) >= 0) break;
            }
            back(now);
            return all;
        }

        static int again(List<int[]> all) {
            int last = all.size() - 1;
            for (int i = 0; i < last; i++) if (Arrays.equals(all.get(i), all.get(last))) return i;
            return -1;
        }

        int comesBack(int what) {
            wrongIf(what < 0 || what > 1);
            List<int[]> all = ahead(1000, true);
            int i = again(all);
            return i < 0 ? -1 : what == 0 ? i : all.size() - 1 - i;
        }

        int mocksIn(int g, int k) {
            guildIs(g);
            wrongIf(k < 0 || k > 1000);
            return ahead(k, false).get(k)[g];
        }

        int seen(int t) {
            long[] row = tray(t);
            wrongIf(row.length != n);
            for (long v : row) wrongIf(v != -1 && v != 99 && (v < 0 || v >= n));
            List<int[]> all = ahead(200, false);
            for (int i = 0; i <= 200; i++) {
                boolean so = true;
                for (int g = 0; g < n; g++) {
                    int mocked = all.get(i)[g] < 0 ? 99 : all.get(i)[g];
                    so &= row[g] == -1 || row[g] == mocked;
                }
                if (so) return i;
            }
            return -1;
        }

        int ever(int g, int k) {
            guildIs(g);
            wrongIf(k < 0 || k > 1000);
            int b = 0;
            for (int[] w : ahead(k, false)) for (int h = 0; h < n; h++) if (w[h] == g) b |= 1 << h;
            return b;
        }

        int fewest(int k, int what) {
            wrongIf(k < 0 || k > 200 || what < 0 || what > 1);
            int[] was = whom;
            int best = 99;
            int first = 0;
            List<int[]> all = ahead(k, false);
            for (int i = 0; i <= k; i++) {
                whom = all.get(i);
                int c = cakes();
                if (c < best) {
                    best = c;
                    first = i;
                }
            }
            whom = was;
            return what == 0 ? best : first;
        }

        void tray(int t, int sort, int many) {
            if (t < 0 || t > 3) throw new NoSuchElementException();
            wrongIf(sort < 0 || sort > 3 || many < 0 || many > 30);
            trays[t] = new long[many];
            sorts[t] = sort;
        }

        long write(int t, int p, long v) {
            long[] row = tray(t);
            if (p < 0 || p >= row.length) throw new IndexOutOfBoundsException();
            int away = 64 - (8 << sorts[t]);
            return row[p] = v << away >> away;
        }

        int copy(int t) {
            long[] row = tray(t);
            int k = Math.min(row.length, n);
            for (int g = 0; g < k; g++) row[g] = whom[g] < 0 ? 99 : whom[g];
            return k;
        }

        void image(int i) {
            if (i < 0 || i > 2) throw new NoSuchElementException();
            images[i] = new Kept(this);
            images[i].deeds = new ArrayList<>(deeds);
        }

        void restore(int i) {
            if (i < 0 || i > 2) throw new NoSuchElementException();
            if (images[i] == null) throw new IllegalStateException();
            back(images[i]);
            deeds = new ArrayDeque<>(images[i].deeds);
        }

        int count(int what) {
            int mocking = 0;
            for (int g = 0; g < n; g++) if (whom[g] >= 0) mocking++;
            int[] all = {told.lines, n, told.streets, told.way.size(), night, mocking, deeds.size(), tape.length(),
                told.may == null ? 0 : 1, told.answers == null ? 0 : 1};
            return what < 0 || what > 9 ? -1 : all[what];
        }
    }
}
