import java.util.ArrayList;
import java.util.Arrays;
import java.util.List;
import java.util.NoSuchElementException;

/** What the boundary tests share: scenes, looks at all that an object holds, and checks. */
final class Bounds {
    static final int NONE = -1;
    static final Class<?> ARGUMENT = IllegalArgumentException.class;
    static final Class<?> STATE = IllegalStateException.class;
    static final Class<?> NO_SUCH = NoSuchElementException.class;
    static final Class<?> INDEX = IndexOutOfBoundsException.class;

    static final String FIVE = "guild rank 5 long 2 loud 3;guild rank 1 long 3 verse 2 melts 4;guild rank 9 loud 1 verse 4;"
            + "guild rank 2;guild rank 7 loud 2;mocks 0 1;mocks 1 0;mocks 2 1;mocks 3 2;"
            + "may mb<2 or ra>rb;answers rb>ra;street east 4;street north 2;street west 3;street south 1;";
    static final String TEN = "guild;".repeat(10);
    static final String TWELVE_STREETS = "street east 20;street north 20;street west 20;street south 20;".repeat(3);
    static final String STAR = TEN + "mocks 1 0;mocks 2 0;mocks 3 0;mocks 4 0;mocks 5 0;mocks 6 0;mocks 7 0;mocks 8 0;mocks 9 0;";
    static final String LINE = TEN + "mocks 1 0;mocks 2 1;mocks 3 2;mocks 4 3;mocks 5 4;mocks 6 5;mocks 7 6;mocks 8 7;mocks 9 8;";

    private static int wrong = 0;
    private static String sentence = "";

    private Bounds() {
    }

    interface Call {
        long of(InsultRow x);
    }

    interface Scene {
        InsultRow make();
    }

    interface Look {
        void at(InsultRow x, StringBuilder seen);
    }

    // ---- checks

    /** Which promise or term, and its words, the checks from here on are of. */
    static void says(String words) {
        sentence = words;
    }

    static void end(String test) {
        if (wrong != 0) {
            System.out.println(wrong + " answers of " + test + " are not as due");
            System.exit(1);
        }
    }

    private static void tellWrong(String what, String got, String want) {
        wrong++;
        if (wrong < 60) {
            System.out.println("'" + sentence + "': " + what + " answered " + got + ", due is " + want);
        }
    }

    static void due(String what, long got, long want) {
        if (got != want) {
            tellWrong(what, Long.toString(got), Long.toString(want));
        }
    }

    static String answerOf(Call call, InsultRow x) {
        try {
            return Long.toString(call.of(x));
        } catch (RuntimeException e) {
            return e.getClass().getSimpleName();
        }
    }

    /** The call throws just this, and leaves all as it was. */
    static void refused(Scene scene, String what, Class<?> want, Call call) {
        refusedWith(scene, what, want.getSimpleName(), call);
    }

    /** The call answers so, and leaves all as it was. */
    static void leaves(Scene scene, String what, long want, Call call) {
        refusedWith(scene, what, Long.toString(want), call);
    }

    private static void refusedWith(Scene scene, String what, String want, Call call) {
        for (Look look : LOOKS) {
            InsultRow x = scene.make();
            String got = answerOf(call, x);
            if (!got.equals(want)) {
                tellWrong(what, got, want);
                return;
            }
            compare(what, look, x, scene.make());
        }
    }

    static void compare(String what, Look look, InsultRow x, InsultRow untouched) {
        StringBuilder got = new StringBuilder();
        StringBuilder want = new StringBuilder();
        look.at(x, got);
        look.at(untouched, want);
        if (!got.toString().equals(want.toString())) {
            String[] left = got.toString().split("\n");
            String[] right = want.toString().split("\n");
            int i = 0;
            while (i < left.length - 1 && i < right.length - 1 && left[i].equals(right[i])) {
                i++;
            }
            tellWrong(what + ", and then a look", left[i], right[i]);
        }
    }

    // ---- texts

    static void feed(InsultRow x, String text) {
        for (int from = 0; from < text.length(); from += 20) {
            int[] five = new int[5];
            for (int i = 0; i < 20; i++) {
                int sign = from + i < text.length() ? text.charAt(from + i) : ' ';
                five[i / 4] = five[i / 4] << 8 | sign & 255;
            }
            x.feed(five[0], five[1], five[2], five[3], five[4]);
        }
    }

    static int tell(InsultRow x, String text) {
        feed(x, text);
        return x.carnival(text.length());
    }

    static InsultRow of(String text) {
        InsultRow x = new InsultRow();
        if (tell(x, text) < 0) {
            tellWrong("the text " + text, "fault " + x.fault(0) + " at " + x.fault(1), "no fault");
        }
        return x;
    }

    static void put(InsultRow x, int tray, int sort, long... numbers) {
        x.tray(tray, sort, numbers.length);
        for (int i = 0; i < numbers.length; i++) {
            x.write(tray, i, numbers[i]);
        }
    }

    /** A text without a fault has so many lines, whatever was told ahead. */
    static void fine(String text, int lines) {
        InsultRow x = lately();
        due("carnival of '" + text + "'", tell(x, text), lines);
        due("fault(0) of '" + text + "'", x.fault(0), 0);
        due("fault(1) of '" + text + "'", x.fault(1), NONE);
        due("count(0) of '" + text + "'", x.count(0), lines);
    }

    /** A text with a fault: its kind, its place, the empty tape, and all else stays. */
    static void faulty(String text, int kind, int place) {
        InsultRow x = lately();
        due("carnival of '" + text + "'", tell(x, text), -10 - kind);
        due("fault(0) of '" + text + "'", x.fault(0), kind);
        due("fault(1) of '" + text + "'", x.fault(1), place);
        due("count(7) behind '" + text + "'", x.count(7), 0);
        for (Look look : BUT_TAPE_AND_FAULT) {
            InsultRow y = lately();
            tell(y, text);
            compare("carnival of '" + text + "'", look, y, lately());
        }
    }

    // ---- scenes

    static InsultRow fresh() {
        return new InsultRow();
    }

    /** Some of all: deeds, two images, three trays, a fault; an empty tape. */
    static InsultRow lately() {
        InsultRow x = of(FIVE);
        x.mock(4, 3);
        x.image(0);
        x.rank(3, 8);
        x.nights(2);
        x.spare(2);
        x.image(1);
        x.rank(0, 6);
        put(x, 0, 1, 402, 99, -1, 103, 310, 55);
        put(x, 1, 0, -1, 0, -1, 99, -1);
        x.tray(2, 3, 0);
        tell(x, "guild long 0;");
        return x;
    }

    /** That, and a text on the tape. */
    static InsultRow midway() {
        InsultRow x = lately();
        feed(x, "guild rank 3;guild;mocks 0 1;street west 2;");
        return x;
    }

    /** The most of all: guilds, streets, deeds, images, trays and their places, bytes on the tape. */
    static InsultRow full() {
        InsultRow x = of(LINE + TWELVE_STREETS + "may ma<9;answers rb>ra or night=3;");
        x.rank(1, 50);
        for (int i = 0; i < 3; i++) {
            x.week(77 * i + 5, 4);
            x.image(i);
        }
        x.rank(9, 99);
        for (int t = 0; t < 4; t++) {
            x.tray(t, t, 30);
            for (int i = 0; i < 10; i++) {
                x.write(t, i, t == 0 ? i + 1 : 100 * i + (i + t) % 10);
            }
            x.write(t, 29, -1);
        }
        feed(x, "guild rank 4;".repeat(10) + " ".repeat(757) + "mocks 1 9;;;;");
        return x;
    }

    static final Scene[] SCENES = {Bounds::fresh, Bounds::midway, Bounds::full};

    // ---- looks; those that change something come on an object of their own

    static final Look[] LOOKS = {Bounds::lookAtNow, Bounds::lookAtTrays, Bounds::lookAtDeeds,
        (x, seen) -> lookAtImage(x, 0, seen), (x, seen) -> lookAtImage(x, 1, seen), (x, seen) -> lookAtImage(x, 2, seen),
        Bounds::lookAtMarks, Bounds::lookAtTape};
    private static final Look[] BUT_TAPE_AND_FAULT = Arrays.copyOf(LOOKS, LOOKS.length - 2);

    private static void note(StringBuilder seen, String what, Call call, InsultRow x) {
        seen.append(what).append(' ').append(answerOf(call, x)).append('\n');
    }

    private static void lookAtNow(InsultRow x, StringBuilder seen) {
        noteCounts(x, seen);
        int guilds = x.count(1);
        int steps = x.count(3);
        for (int i = 0; i < guilds; i++) {
            int g = i;
            for (int k = 0; k < 7; k++) {
                int what = k;
                note(seen, "guild(" + g + ", " + what + ")", y -> y.guild(g, what), x);
            }
            note(seen, "may(" + g + ", next)", y -> y.may(g, (g + 1) % guilds) ? 1 : 0, x);
            note(seen, "tomorrow(" + g + ")", y -> y.tomorrow(g), x);
            note(seen, "place(" + g + ")", y -> y.place(g), x);
            note(seen, "cakesOf(" + g + ")", y -> y.cakesOf(g), x);
            note(seen, "arrives(" + g + ")", y -> y.arrives(g), x);
            note(seen, "freeFor(" + g + ")", y -> y.freeFor(g), x);
        }
        for (int i = 0; i <= 20; i++) {
            int k = i;
            note(seen, "walks(" + k + ")", y -> y.walks(k), x);
        }
        note(seen, "the last x", y -> y.step(steps - 1, 0), x);
        note(seen, "the last y", y -> y.step(steps - 1, 1), x);
        note(seen, "behind it", y -> y.step(steps, 0), x);
        note(seen, "length", y -> y.length(), x);
        note(seen, "noise", y -> y.noise(), x);
        note(seen, "bows", y -> y.bows(), x);
        note(seen, "melted", y -> y.melted(0, 99), x);
        note(seen, "comesBack", y -> 100 * y.comesBack(0) + y.comesBack(1), x);
    }

    private static void noteCounts(InsultRow x, StringBuilder seen) {
        for (int i = 0; i < 10; i++) {
            int what = i;
            if (what != 7) {
                note(seen, "count(" + what + ")", y -> y.count(what), x);
            }
        }
    }

    private static void lookAtMarks(InsultRow x, StringBuilder seen) {
        note(seen, "fault(0)", y -> y.fault(0), x);
        note(seen, "fault(1)", y -> y.fault(1), x);
        note(seen, "bytes on the tape", y -> y.count(7), x);
    }

    private static void noteStanding(InsultRow x, StringBuilder seen) {
        for (int i = 0; i < x.count(1); i++) {
            int g = i;
            note(seen, "guild(" + g + ", 0)", y -> y.guild(g, 0), x);
            note(seen, "guild(" + g + ", 1)", y -> y.guild(g, 1), x);
        }
        note(seen, "nights", y -> y.count(4), x);
    }

    private static void lookAtTrays(InsultRow x, StringBuilder seen) {
        for (int i = 0; i < 4; i++) {
            int t = i;
            for (int k = 0; k < 4; k++) {
                int what = k;
                note(seen, "judge(" + t + ", " + what + ")", y -> y.judge(t, what), x);
            }
            note(seen, "seen(" + t + ")", y -> y.seen(t), x);
            note(seen, "perform(" + t + ")", y -> y.perform(t), x);
            noteStanding(x, seen);
            for (int place : new int[] {0, 4, 5, 6, 29, 30}) {
                note(seen, "write(" + t + ", " + place + ", ..)", y -> y.write(t, place, 0x123456789abcdef0L), x);
            }
        }
    }

    private static void lookAtDeeds(InsultRow x, StringBuilder seen) {
        noteStanding(x, seen);
        for (int i = 0; i <= 10; i++) {
            note(seen, "undo(1)", y -> y.undo(1), x);
            noteStanding(x, seen);
        }
    }

    private static void lookAtImage(InsultRow x, int i, StringBuilder seen) {
        note(seen, "restore(" + i + ")", y -> { y.restore(i); return 0; }, x);
        noteCounts(x, seen);
        lookAtDeeds(x, seen);
    }

    private static void lookAtTape(InsultRow x, StringBuilder seen) {
        int bytes = x.count(7);
        // The last signs of the full tape are faults, so that these show as well as what lies ahead of them.
        note(seen, "carnival(all)", y -> y.carnival(bytes), x);
        note(seen, "fault(1)", y -> y.fault(1), x);
        noteCounts(x, seen);
        noteStanding(x, seen);
    }

    // ---- batches

    /** Many calls that are due to change nothing, made one behind the other. */
    static void batchLeaves(Scene scene, String what, List<Call> calls) {
        for (Look look : LOOKS) {
            for (int from = 0; from < calls.size(); from += 100) {
                InsultRow x = scene.make();
                for (Call call : new ArrayList<>(calls.subList(from, Math.min(from + 100, calls.size())))) {
                    answerOf(call, x);
                }
                compare(what, look, x, scene.make());
            }
        }
    }
}
