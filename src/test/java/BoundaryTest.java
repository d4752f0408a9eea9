/**
 * For each sentence of the promises that names a boundary: the last value that is taken, the first that
 * isn't, and a look that a refused call has changed nothing.
 */
public final class BoundaryTest {
    private static final int NONE = Bounds.NONE;
    private static final int LEAST = Integer.MIN_VALUE;
    private static final int MOST = Integer.MAX_VALUE;
    private static final Bounds.Scene FRESH = Bounds::fresh;
    private static final Bounds.Scene MIDWAY = Bounds::midway;
    private static final Bounds.Scene FULL = Bounds::full;
    private static final String THERE_AND_BACK = "street east 5;street west 5;";

    private interface WithOne {
        long of(InsultRow x, int number);
    }

    public static void main(String[] args) {
        aNewObject();
        usedForManyCalls();
        feed();
        carnival();
        carnivalWithAFault();
        fault();
        guild();
        may();
        tomorrow();
        step();
        mock();
        spare();
        rank();
        nights();
        undo();
        deedsForgotten();
        judge();
        toldDeeds();
        perform();
        week();
        rings();
        walksAndPlace();
        length();
        persuaded();
        peace();
        goatAndBelow();
        cakesAndChains();
        freeFor();
        atAndArrives();
        meets();
        bows();
        melted();
        noise();
        quietest();
        comesBack();
        mocksIn();
        seen();
        seenNumbers();
        ever();
        fewest();
        tray();
        write();
        copy();
        images();
        count();
        severalThrows();
        Bounds.end("BoundaryTest");
    }

    // ---- bounds that many calls share

    private static void due(String what, long got, long want) {
        Bounds.due(what, got, want);
    }

    private static void takes(Bounds.Scene scene, String what, Bounds.Call call) {
        String got = Bounds.answerOf(call, scene.make());
        due(what + " is taken (it answered " + got + ")", got.endsWith("Exception") ? 0 : 1, 1);
    }

    /** All from least to most are taken; those next to these, and the ends of int, throw IllegalArgumentException. */
    private static void bounded(Bounds.Scene scene, String what, int least, int most, WithOne call) {
        for (int n : new int[] {least, most}) {
            takes(scene, what + " " + n, x -> call.of(x, n));
        }
        for (int n : new int[] {least - 1, most + 1, LEAST, MOST}) {
            Bounds.refused(scene, what + " " + n, Bounds.ARGUMENT, x -> call.of(x, n));
        }
    }

    /** MIDWAY has five guilds, FULL ten, FRESH none. */
    private static void needsAGuild(String what, WithOne call) {
        Bounds.says(what + ": no such GUILD (as everywhere)");
        for (int g : new int[] {0, 4}) {
            takes(MIDWAY, what + " " + g, x -> call.of(x, g));
        }
        for (int g : new int[] {-1, 5, LEAST, MOST}) {
            Bounds.refused(MIDWAY, what + " " + g, Bounds.NO_SUCH, x -> call.of(x, g));
        }
        takes(FULL, what + " 9", x -> call.of(x, 9));
        Bounds.refused(FULL, what + " 10", Bounds.NO_SUCH, x -> call.of(x, 10));
        Bounds.refused(FULL, what + " -1", Bounds.NO_SUCH, x -> call.of(x, -1));
        Bounds.refused(FRESH, what + " 0", Bounds.NO_SUCH, x -> call.of(x, 0));
        Bounds.refused(FRESH, what + " -1", Bounds.NO_SUCH, x -> call.of(x, -1));
    }

    /** MIDWAY has trays 0 to 2, FULL all four, FRESH none. */
    private static void needsATray(String what, WithOne call) {
        Bounds.says(what + ": no such TRAY (as below)");
        for (int t : new int[] {-1, 4, LEAST, MOST}) {
            Bounds.refused(MIDWAY, what + " " + t, Bounds.NO_SUCH, x -> call.of(x, t));
            Bounds.refused(FULL, what + " " + t, Bounds.NO_SUCH, x -> call.of(x, t));
            Bounds.refused(FRESH, what + " " + t, Bounds.NO_SUCH, x -> call.of(x, t));
        }
        Bounds.says(what + ": it is MISSING (as below)");
        Bounds.refused(MIDWAY, what + " 3", Bounds.STATE, x -> call.of(x, 3));
        for (int i = 0; i < 4; i++) {
            int t = i;
            Bounds.refused(FRESH, what + " " + t, Bounds.STATE, x -> call.of(x, t));
        }
    }

    // ---- the carnival

    private static void aNewObject() {
        Bounds.says("1 A new object: no GUILDS, no STREETS; TRAYS are MISSING; an empty tape");
        InsultRow x = new InsultRow();
        int[] counts = {0, 0, 0, 1, 0, 0, 0, 0, 0, 0};
        for (int what = 0; what < counts.length; what++) {
            due("count(" + what + ")", x.count(what), counts[what]);
        }
        due("the first feed", x.feed(0, 0, 0, 0, 0), 20);
        due("NONE", InsultRow.NONE, -1);
        Bounds.says("1 A new object: IMAGES: none at first");
        for (int k = 0; k < 3; k++) {
            int i = k;
            Bounds.refused(FRESH, "restore(" + i + ")", Bounds.STATE, y -> { y.restore(i); return 0; });
        }
    }

    private static void usedForManyCalls() {
        Bounds.says("An object is used for at most 512 calls");
        InsultRow x = new InsultRow();
        for (int i = 0; i < 510; i++) {
            x.nights(60);
        }
        due("the 511th call", x.count(6), 10);
        due("the 512th call", x.count(4), 30600);
        // Four feeds and the carnival are calls, too.
        InsultRow y = Bounds.of(Bounds.TEN + "may 1=1;");
        for (int call = 6; call <= 510; call++) {
            y.rank(call % 10, call % 100);
        }
        due("the 511th call, undo(10)", y.undo(10), 0);
        due("the 512th call", y.guild(9, 1), 499 % 100);
    }

    private static void feed() {
        Bounds.says("2 feed: NONE, and nothing changes, if there would be more than 900");
        InsultRow x = new InsultRow();
        for (int i = 1; i <= 44; i++) {
            due("feed " + i, x.feed(0x20202020, 0x20202020, 0x20202020, 0x20202020, 0x20202020), 20 * i);
        }
        due("feed 45", x.feed(0x20202020, 0x20202020, 0x20206775, 0x696c6420, 0x2020203b), 900);
        for (int i = 0; i < 3; i++) {
            due("feed more", x.feed(-1, -1, -1, -1, -1), NONE);
            due("count(7)", x.count(7), 900);
        }
        due("carnival(900)", x.carnival(900), 1);
        due("feed behind it", x.feed(0, 0, 0, 0, 0), 20);
        Bounds.leaves(FULL, "feed of a full tape", NONE, y -> y.feed(1, 2, 3, 4, 5));
        Bounds.leaves(FULL, "feed of a full tape, blanks", NONE,
                y -> y.feed(0x20202020, 0x20202020, 0x20202020, 0x20202020, 0x20202020));
        Bounds.says("2 feed: the highest of each int first");
        InsultRow z = new InsultRow();
        z.feed(0x6775696c, 0x640a7261, 0x6e6b2036, 0x3b202020, 0x202020ff);
        due("carnival(20)", z.carnival(20), -11);
        due("the last byte, above 127", z.fault(1), 19);
        z.feed(0x6775696c, 0x640a7261, 0x6e6b2036, 0x3b202020, 0x202020ff);
        due("carnival(19)", z.carnival(19), 1);
        due("rank", z.guild(0, 1), 6);
        z.feed(0x80000000, 0, 0, 0, 0);
        due("the first byte, 128", z.carnival(1), -11);
        due("its place", z.fault(1), 0);
    }

    private static void carnival() {
        Bounds.says("3 carnival: n is below 0 or above what it has");
        for (int n : new int[] {-1, 1, 20, 900, LEAST, MOST}) {
            Bounds.refused(FRESH, "carnival(" + n + ")", Bounds.ARGUMENT, x -> x.carnival(n));
        }
        for (int n : new int[] {-1, 61, 900, LEAST, MOST}) {
            Bounds.refused(MIDWAY, "carnival(" + n + ")", Bounds.ARGUMENT, x -> x.carnival(n));
        }
        for (int n : new int[] {-1, 901, LEAST, MOST}) {
            Bounds.refused(FULL, "carnival(" + n + ")", Bounds.ARGUMENT, x -> x.carnival(n));
        }
        due("nothing of nothing", FRESH.make().carnival(0), 0);
        due("nothing", MIDWAY.make().carnival(0), 0);
        due("all", MIDWAY.make().carnival(60), 4);
        due("all but the blanks", MIDWAY.make().carnival(43), 4);
        due("one less", MIDWAY.make().carnival(42), -12);
        due("all of a full tape", FULL.make().carnival(900), -12);
        due("that without a fault", FULL.make().carnival(897), 11);
        Bounds.says("3 carnival: the tape (which is empty then), NIGHTS 0, no DEEDS");
        for (int n : new int[] {0, 43, 60}) {
            InsultRow x = MIDWAY.make();
            x.carnival(n);
            due("count(7)", x.count(7), 0);
            due("count(4)", x.count(4), 0);
            due("count(6)", x.count(6), 0);
            due("undo(1)", Bounds.answerOf(y -> y.undo(1), x).equals("IllegalArgumentException") ? 1 : 0, 1);
            due("carnival(1)", Bounds.answerOf(y -> y.carnival(1), x).equals("IllegalArgumentException") ? 1 : 0, 1);
        }
    }

    private static void carnivalWithAFault() {
        Bounds.says("3 carnival: -10 less the FAULT (all stays)");
        Bounds.faulty("?", 1, 0);
        Bounds.faulty("guild", 2, 5);
        Bounds.faulty("guild rank 100;", 3, 11);
        Bounds.faulty(Bounds.TEN + "guild;", 4, 60);
        // What a faulty text told ahead of its fault must not stay either.
        Bounds.faulty("guild rank 99;guild rank 98;mocks 0 1;street north 9;may 1=2;answers 1=1;?", 1, 73);
        InsultRow x = new InsultRow();
        due("at first", Bounds.tell(x, "guild;may 1=1;street"), -12);
        for (int what = 0; what < 10; what++) {
            due("count(" + what + ")", x.count(what), what == 3 ? 1 : 0);
        }
    }

    private static void fault() {
        Bounds.says("4 fault: 0 without, and at first; its place (NONE without)");
        InsultRow x = new InsultRow();
        due("fault(0) at first", x.fault(0), 0);
        due("fault(1) at first", x.fault(1), NONE);
        Bounds.tell(x, "?");
        due("fault(0)", x.fault(0), 1);
        due("fault(1) at the very first byte", x.fault(1), 0);
        Bounds.says("4 fault: of the latest carnival() that threw nothing");
        due("carnival(1)", Bounds.answerOf(y -> y.carnival(1), x).equals("IllegalArgumentException") ? 1 : 0, 1);
        due("fault(0)", x.fault(0), 1);
        due("fault(1)", x.fault(1), 0);
        due("carnival(0)", x.carnival(0), 0);
        due("fault(0) without", x.fault(0), 0);
        due("fault(1) without", x.fault(1), NONE);
        Bounds.says("4 fault: NONE for others");
        Bounds.tell(x, "guild long 10;");
        due("fault(0)", x.fault(0), 3);
        due("fault(1)", x.fault(1), 11);
        for (int what : new int[] {-1, 2, 3, LEAST, MOST}) {
            due("fault(" + what + ")", x.fault(what), NONE);
        }
    }

    private static void guild() {
        needsAGuild("5 guild", (x, g) -> x.guild(g, 0));
        Bounds.says("5 guild: another what");
        bounded(MIDWAY, "guild(0, what)", 0, 6, (x, what) -> x.guild(0, what));
        bounded(FULL, "guild(9, what)", 0, 6, (x, what) -> x.guild(9, what));
        Bounds.says("5 guild: whom it MOCKS (NONE); its MOCKERS, as bits");
        InsultRow x = Bounds.of(Bounds.STAR);
        due("nobody", x.guild(0, 0), NONE);
        due("all others", x.guild(0, 6), 1022);
        due("none", x.guild(9, 6), 0);
    }

    private static void may() {
        needsAGuild("6 may(a, ..)", (x, a) -> x.may(a, a == 1 ? 2 : 1) ? 1 : 0);
        needsAGuild("6 may(.., b)", (x, b) -> x.may(b == 0 ? 1 : 0, b) ? 1 : 0);
        Bounds.says("6 may: both one");
        for (int i = 0; i < 5; i++) {
            int g = i;
            Bounds.refused(MIDWAY, "may(" + g + ", " + g + ")", Bounds.ARGUMENT, x -> x.may(g, g) ? 1 : 0);
        }
        Bounds.refused(FULL, "may(9, 9)", Bounds.ARGUMENT, x -> x.may(9, 9) ? 1 : 0);
        takes(FULL, "may(9, 8)", x -> x.may(9, 8) ? 1 : 0);
        takes(FULL, "may(8, 9)", x -> x.may(8, 9) ? 1 : 0);
    }

    private static void tomorrow() {
        needsAGuild("7 tomorrow", (x, g) -> x.tomorrow(g));
        Bounds.says("7 tomorrow: NONE");
        InsultRow x = Bounds.of("guild;guild;mocks 0 1;answers 1=1;");
        due("it answers", x.tomorrow(1), 0);
        due("it has no MOCKERS", x.tomorrow(0), 1);
        x.spare(0);
        due("nobody mocks", x.tomorrow(0), NONE);
        due("nobody mocks", x.tomorrow(1), NONE);
        Bounds.says("2 A NIGHT: each GUILD a that has MOCKERS, the least of whom is b");
        InsultRow y = Bounds.of(Bounds.STAR + "answers 1=1;");
        due("the least of nine", y.tomorrow(0), 1);
        y.spare(1);
        due("the least of eight", y.tomorrow(0), 2);
        for (int g = 2; g < 9; g++) {
            y.spare(g);
        }
        due("the last", y.tomorrow(0), 9);
    }

    private static void step() {
        Bounds.says("8 step: there is no such step");
        due("step(0, 0) without STREETS", FRESH.make().step(0, 0), 0);
        due("step(0, 1) without STREETS", FRESH.make().step(0, 1), 0);
        for (int k : new int[] {-1, 1, LEAST, MOST}) {
            Bounds.refused(FRESH, "step(" + k + ", 0)", Bounds.NO_SUCH, x -> x.step(k, 0));
        }
        // MIDWAY: east 4, north 2, west 3, south 1.
        due("the last x", MIDWAY.make().step(10, 0), 1);
        due("the last y", MIDWAY.make().step(10, 1), 1);
        due("the first of a turn", MIDWAY.make().step(5, 1), 1);
        due("the last ahead of it", MIDWAY.make().step(4, 1), 0);
        for (int k : new int[] {-1, 11, LEAST, MOST}) {
            Bounds.refused(MIDWAY, "step(" + k + ", 1)", Bounds.NO_SUCH, x -> x.step(k, 1));
        }
        takes(FULL, "step(240, 0)", x -> x.step(240, 0));
        Bounds.refused(FULL, "step(241, 0)", Bounds.NO_SUCH, x -> x.step(241, 0));
        Bounds.says("8 step: another what");
        bounded(MIDWAY, "step(10, what)", 0, 1, (x, what) -> x.step(10, what));
        bounded(FRESH, "step(0, what)", 0, 1, (x, what) -> x.step(0, what));
    }

    // ---- deeds

    private static InsultRow lawful() {
        InsultRow x = Bounds.of("guild rank 1;guild rank 2;guild rank 3;mocks 2 1;may ra>rb and rb<3;");
        x.rank(0, 0);
        x.spare(0);
        return x;
    }

    private static void mock() {
        Bounds.says("9 mock: below 0: less why it can't be (nothing happens): 1 no such GUILD, both one");
        int[][] none = {{-1, 0}, {0, -1}, {5, 0}, {0, 5}, {-1, -1}, {5, 5}, {0, 0}, {4, 4}, {LEAST, 0}, {0, MOST}, {MOST, LEAST}};
        for (int[] two : none) {
            Bounds.leaves(MIDWAY, "mock(" + two[0] + ", " + two[1] + ")", -1, x -> x.mock(two[0], two[1]));
        }
        Bounds.leaves(FULL, "mock(9, 10)", -1, x -> x.mock(9, 10));
        Bounds.leaves(FULL, "mock(10, 9)", -1, x -> x.mock(10, 9));
        Bounds.leaves(FULL, "mock(9, 9)", -1, x -> x.mock(9, 9));
        Bounds.leaves(FULL, "mock(0, 99)", -1, x -> x.mock(0, 99));
        Bounds.leaves(FRESH, "mock(0, 1)", -1, x -> x.mock(0, 1));
        Bounds.leaves(FRESH, "mock(0, 0)", -1, x -> x.mock(0, 0));
        Bounds.says("9 mock: below 0: less why it can't be (nothing happens): 2 it MAY not");
        Bounds.leaves(BoundaryTest::lawful, "mock(0, 1)", -2, x -> x.mock(0, 1));
        Bounds.leaves(BoundaryTest::lawful, "mock(1, 2)", -2, x -> x.mock(1, 2));
        Bounds.leaves(BoundaryTest::lawful, "mock(1, 1): 1 comes ahead of 2", -1, x -> x.mock(1, 1));
        due("mock(2, 0) may be", lawful().mock(2, 0), 1);
        due("mock(2, 1) again", lawful().mock(2, 1), 1);
        Bounds.says("9 mock: how many MOCKERS b has then");
        InsultRow x = Bounds.of(Bounds.TEN);
        for (int g = 1; g <= 9; g++) {
            due("mock(" + g + ", 0)", x.mock(g, 0), g);
        }
        due("mock(9, 0) again", x.mock(9, 0), 9);
        due("mock(0, 9)", x.mock(0, 9), 1);
    }

    private static void spare() {
        needsAGuild("10 spare", (x, g) -> x.spare(g));
        Bounds.says("10 spare: whom it MOCKED (NONE)");
        InsultRow x = Bounds.of("guild;guild;mocks 1 0;");
        due("spare(1)", x.spare(1), 0);
        due("spare(1) again", x.spare(1), NONE);
        due("spare(0)", x.spare(0), NONE);
        due("DEEDS", x.count(6), 3);
    }

    private static void rank() {
        needsAGuild("11 rank", (x, g) -> x.rank(g, 50));
        Bounds.says("11 rank: another one (0 to 99); IllegalArgumentException: n");
        bounded(MIDWAY, "rank(0, n)", 0, 99, (x, n) -> x.rank(0, n));
        bounded(FULL, "rank(9, n)", 0, 99, (x, n) -> x.rank(9, n));
        InsultRow x = Bounds.of("guild rank 98;");
        due("rank(0, 99)", x.rank(0, 99), 98);
        due("rank(0, 0)", x.rank(0, 0), 99);
        due("rank(0, 0) again", x.rank(0, 0), 0);
        due("guild(0, 1)", x.guild(0, 1), 0);
        due("DEEDS", x.count(6), 3);
    }

    private static void nights() {
        Bounds.says("12 nights: n NIGHTS (1 to 60); IllegalArgumentException: n");
        bounded(FRESH, "nights(n)", 1, 60, (x, n) -> x.nights(n));
        bounded(MIDWAY, "nights(n)", 1, 60, (x, n) -> x.nights(n));
        bounded(FULL, "nights(n)", 1, 60, (x, n) -> x.nights(n));
        InsultRow x = Bounds.of("guild;guild;mocks 0 1;answers night=59;");
        due("nights(59)", x.nights(59), 0);
        due("count(4)", x.count(4), 59);
        due("nights(1)", x.nights(1), 1);
        x.undo(2);
        due("undone", x.count(4), 0);
        due("nights(60)", x.nights(60), 1);
        due("count(4)", x.count(4), 60);
        due("one DEED", x.count(6), 1);
        Bounds.says("12 nights: how many GUILDS MOCK otherwise than ahead of these");
        InsultRow y = Bounds.of(Bounds.TEN + "mocks 0 1;mocks 1 2;mocks 2 3;mocks 3 4;mocks 4 5;mocks 5 6;mocks 6 7;"
                + "mocks 7 8;mocks 8 9;mocks 9 0;answers 1=1;");
        due("all ten turn", y.nights(1), 10);
        due("and turn back", y.nights(1), 10);
        due("and both", y.nights(2), 0);
        due("without GUILDS", new InsultRow().nights(60), 0);
    }

    private static void undo() {
        Bounds.says("13 undo: n isn't 1 to 10, there aren't so many");
        for (int n : new int[] {-1, 0, 1, 10, 11, LEAST, MOST}) {
            Bounds.refused(FRESH, "undo(" + n + ")", Bounds.ARGUMENT, x -> x.undo(n));
        }
        bounded(MIDWAY, "undo(n)", 1, 5, (x, n) -> x.undo(n));
        Bounds.refused(MIDWAY, "undo(10)", Bounds.ARGUMENT, x -> x.undo(10));
        Bounds.refused(MIDWAY, "undo(11)", Bounds.ARGUMENT, x -> x.undo(11));
        bounded(FULL, "undo(n)", 1, 10, (x, n) -> x.undo(n));
        for (int n = 1; n <= 5; n++) {
            due("undo(" + n + ") of five", MIDWAY.make().undo(n), 5 - n);
        }
        for (int n = 1; n <= 10; n++) {
            due("undo(" + n + ") of ten", FULL.make().undo(n), 10 - n);
        }
    }

    private static void deedsForgotten() {
        Bounds.says("2 DEEDS: each can be UNDONE, the latest first, 10 at most (eldest are forgotten)");
        for (int deeds = 1; deeds <= 23; deeds++) {
            InsultRow x = Bounds.of("guild rank 50;");
            for (int i = 1; i <= deeds; i++) {
                x.rank(0, i);
                due("DEEDS behind " + i, x.count(6), Math.min(i, 10));
            }
            int kept = Math.min(deeds, 10);
            due("undo of all behind " + deeds, x.undo(kept), 0);
            due("rank behind " + deeds, x.guild(0, 1), deeds <= 10 ? 50 : deeds - 10);
        }
        InsultRow x = Bounds.of("guild;guild;answers 1=1;");
        x.mock(0, 1);
        x.nights(2);
        x.spare(0);
        x.rank(1, 7);
        x.undo(1);
        due("the RANK changed", x.guild(1, 1), 0);
        x.undo(1);
        due("to MOCK none", x.guild(0, 0), 1);
        x.undo(1);
        due("NIGHTS of one call", x.count(4), 0);
        due("what they brought", x.guild(1, 0), NONE);
        x.undo(1);
        due("to MOCK", x.guild(0, 0), NONE);
    }

    private static void judge() {
        needsATray("14 judge", (x, t) -> x.judge(t, 0));
        Bounds.says("14 judge: another what");
        bounded(MIDWAY, "judge(0, what)", 0, 3, (x, what) -> x.judge(0, what));
        bounded(MIDWAY, "judge(2, what) of an empty TRAY", 0, 3, (x, what) -> x.judge(2, what));
        bounded(FULL, "judge(3, what)", 0, 3, (x, what) -> x.judge(3, what));
        Bounds.says("14 judge: the first place that can't be (NONE), why (0)");
        InsultRow x = Bounds.of("guild;guild;guild;mocks 0 2;mocks 1 2;");
        x.tray(0, 0, 0);
        due("an empty TRAY, place", x.judge(0, 0), NONE);
        due("an empty TRAY, why", x.judge(0, 1), 0);
        due("an empty TRAY, who MOCK", x.judge(0, 2), 2);
        due("an empty TRAY, CAKES", x.judge(0, 3), 1);
        x.tray(0, 2, 30);
        due("the first of thirty", x.judge(0, 0), 0);
        for (int i = 0; i < 30; i++) {
            x.write(0, i, i % 2 == 0 ? -1 : 99);
            due("place " + (i + 1), x.judge(0, 0), i < 29 ? i + 1 : NONE);
            due("why of " + (i + 1), x.judge(0, 1), i < 29 ? 1 : 0);
        }
        due("who MOCK then", x.judge(0, 2), 1);
        due("CAKES then", x.judge(0, 3), 0);
        due("as if done", x.count(5), 2);
        due("no NIGHTS", x.count(4), 0);
    }

    private static InsultRow told(int guilds, long deed) {
        InsultRow x = Bounds.of("guild;".repeat(guilds));
        Bounds.put(x, 0, 3, -1, deed, -1);
        return x;
    }

    private static void canBe(int guilds, long deed, int why) {
        InsultRow x = told(guilds, deed);
        due(guilds + " GUILDS, deed " + deed + ", place", x.judge(0, 0), why == 0 ? NONE : 1);
        due(guilds + " GUILDS, deed " + deed + ", why", x.judge(0, 1), why);
        due(guilds + " GUILDS, deed " + deed + ", perform", x.perform(0), why == 0 ? 3 : 1);
        due(guilds + " GUILDS, deed " + deed + ", NIGHTS", x.count(4), why != 0 ? 1 : deed == -1 ? 3 : 2);
    }

    private static void toldDeeds() {
        Bounds.says("2 TOLD DEEDS can't be: 1 no such GUILD, number, both one");
        for (int n = 0; n <= 10; n++) {
            int last = n - 1;
            canBe(n, -1, 0);
            canBe(n, -2, 1);
            canBe(n, 0, 1);
            canBe(n, 98, 1);
            canBe(n, 99, n > 0 ? 0 : 1);
            canBe(n, 100L * n, 1);
            canBe(n, 100L * n + 99, 1);
            canBe(n, n, 1);
            canBe(n, 1000, 1);
            canBe(n, 1099, 1);
            if (n > 0) {
                canBe(n, 100L * last + 99, 0);
                canBe(n, 100L * last + last, 1);
                canBe(n, 100L * last + n, 1);
                canBe(n, 100L * last + 98, 1);
                canBe(n, 100L * last, n > 1 ? 0 : 1);
            }
            if (n > 1) {
                canBe(n, last, 0);
                canBe(n, 100L * last + last - 1, 0);
            }
        }
        long[] far = {-100, -99, -199, -101, Long.MIN_VALUE, Long.MAX_VALUE, LEAST, MOST, 1L << 32, (1L << 32) + 1, (1L << 32) - 1,
            (1L << 32) + 99, 100 * (1L << 32) + 1, 100 * (1L << 32) + 99, 429496729600L, 65536 + 1, 256 + 1};
        for (long deed : far) {
            canBe(2, deed, 1);
        }
        Bounds.says("2 TOLD DEEDS can't be: 2 it MAY not");
        InsultRow x = lawful();
        for (int[] deed : new int[][] {{1, 2}, {102, 2}, {101, 1}, {103, 1}, {200, 0}, {201, 0}, {99, 0}, {202, 1}}) {
            Bounds.put(x, 0, 3, deed[0]);
            due("why of " + deed[0], x.judge(0, 1), deed[1]);
            due("place of " + deed[0], x.judge(0, 0), deed[1] == 0 ? NONE : 0);
        }
        Bounds.says("2 TOLD DEEDS in TRAYS of all sorts: numbers as they were cut");
        InsultRow y = Bounds.of(Bounds.TEN);
        for (int sort = 0; sort < 4; sort++) {
            Bounds.put(y, 0, sort, 109);
            due("109 in sort " + sort, y.judge(0, 0), NONE);
            Bounds.put(y, 0, sort, 999);
            // 999 in 8 bits is -25.
            due("999 in sort " + sort, y.judge(0, 0), sort == 0 ? 0 : NONE);
            Bounds.put(y, 0, sort, 255);
            due("255 in sort " + sort, y.judge(0, 0), sort == 0 ? NONE : 0);
            Bounds.put(y, 0, sort, 65535);
            due("65535 in sort " + sort, y.judge(0, 0), sort < 2 ? NONE : 0);
            Bounds.put(y, 0, sort, 4294967295L);
            due("4294967295 in sort " + sort, y.judge(0, 0), sort < 3 ? NONE : 0);
        }
    }

    private static InsultRow withTray(long... numbers) {
        InsultRow x = lawful();
        Bounds.put(x, 2, 3, numbers);
        return x;
    }

    private static void perform() {
        needsATray("15 perform", (x, t) -> x.perform(t));
        Bounds.says("15 perform: till one can't be: how many were");
        Bounds.leaves(() -> withTray(), "an empty TRAY", 0, x -> x.perform(2));
        Bounds.leaves(() -> withTray(1, -1, 99), "the first MAY not", 0, x -> x.perform(2));
        Bounds.leaves(() -> withTray(55, -1, 99), "the first is no number", 0, x -> x.perform(2));
        InsultRow x = Bounds.of("guild;guild;");
        x.tray(0, 0, 30);
        for (int i = 0; i < 30; i++) {
            x.write(0, i, -1);
        }
        due("thirty NIGHTS", x.perform(0), 30);
        due("count(4)", x.count(4), 30);
        due("each a DEED, 10 at most", x.count(6), 10);
        due("undo(10)", x.undo(10), 0);
        due("count(4)", x.count(4), 20);
        x.write(0, 29, 0);
        due("all but the last", x.perform(0), 29);
        due("count(4)", x.count(4), 49);
        x.write(0, 0, 0);
        due("none", x.perform(0), 0);
        due("count(4)", x.count(4), 49);
    }

    /** The deeds of a week made one by one by other calls. */
    private static int weekByHand(InsultRow x, int seed, int times) {
        int drawn = seed;
        int could = 0;
        int guilds = x.count(1);
        for (int i = 0; i < times; i++) {
            drawn = 1103515245 * drawn + 12345;
            int sort = (drawn >>> 16) % 3;
            if (sort == 0) {
                x.nights(1);
                could++;
                continue;
            }
            drawn = 1103515245 * drawn + 12345;
            int a = (drawn >>> 16) % guilds;
            if (sort == 2) {
                x.spare(a);
                could++;
                continue;
            }
            drawn = 1103515245 * drawn + 12345;
            could += x.mock(a, (drawn >>> 16) % guilds) > 0 ? 1 : 0;
        }
        return could;
    }

    private static void week() {
        Bounds.says("16 week: so many times (1 to 30); IllegalArgumentException: how many times");
        bounded(MIDWAY, "week(1, times)", 1, 30, (x, times) -> x.week(1, times));
        bounded(FULL, "week(-1, times)", 1, 30, (x, times) -> x.week(-1, times));
        Bounds.says("16 week: IllegalStateException: no GUILDS");
        for (int times : new int[] {1, 30}) {
            Bounds.refused(FRESH, "week(1, " + times + ")", Bounds.STATE, x -> x.week(1, times));
        }
        InsultRow streets = Bounds.of("street north 3;may 1=1;");
        due("STREETS alone", Bounds.answerOf(x -> x.week(1, 1), streets).equals("IllegalStateException") ? 1 : 0, 1);
        Bounds.says("3 A WEEK by a SEED (x, an int): wrap-around");
        for (int seed : new int[] {0, 1, -1, LEAST, MOST, LEAST + 1, MOST - 1, 0x10000, 0xffff}) {
            for (int times : new int[] {1, 2, 29, 30}) {
                for (String text : new String[] {"guild;", "guild;guild;", Bounds.FIVE, Bounds.LINE}) {
                    InsultRow x = Bounds.of(text);
                    InsultRow y = Bounds.of(text);
                    String what = "week(" + seed + ", " + times + ")";
                    due(what, x.week(seed, times), weekByHand(y, seed, times));
                    due(what + ", NIGHTS", x.count(4), y.count(4));
                    due(what + ", DEEDS", x.count(6), y.count(6));
                    for (int g = 0; g < x.count(1); g++) {
                        due(what + ", guild " + g, x.guild(g, 0), y.guild(g, 0));
                    }
                }
            }
        }
    }

    // ---- rings, the row

    private static void rings() {
        Bounds.says("17 ringed, 18 rings: none, one, five; two GUILDS and ten");
        String five = Bounds.TEN + "mocks 0 1;mocks 1 0;mocks 2 3;mocks 3 2;mocks 4 5;mocks 5 4;mocks 6 7;mocks 7 6;mocks 8 9;mocks 9 8;";
        String ten = Bounds.LINE + "mocks 0 9;";
        String[] texts = {"", "guild;", "guild;guild;mocks 0 1;mocks 1 0;", Bounds.LINE, ten, five, Bounds.STAR,
            Bounds.STAR + "mocks 0 9;"};
        int[] ringed = {0, 0, 3, 0, 1023, 1023, 0, 513};
        int[] rings = {0, 0, 1, 0, 1, 5, 0, 1};
        int[] shut = {0, 0, 1, 0, 1, 5, 0, 0};
        int[] cakes = {0, 0, 1, 0, 1, 5, 8, 8};
        int[] chains = {0, 1, 1, 1, 1, 5, 9, 8};
        for (int i = 0; i < texts.length; i++) {
            InsultRow x = Bounds.of(texts[i]);
            due("ringed of " + texts[i], x.ringed(), ringed[i]);
            due("rings of " + texts[i], x.rings(false), rings[i]);
            due("SHUT ones of " + texts[i], x.rings(true), shut[i]);
            due("19 cakes of " + texts[i], x.cakes(), cakes[i]);
            due("20 chains of " + texts[i], x.chains(), chains[i]);
        }
        Bounds.says("3 A RING is SHUT, if each in it has just one MOCKER");
        InsultRow x = Bounds.of("guild;guild;guild;mocks 0 1;mocks 1 0;");
        due("SHUT", x.rings(true), 1);
        x.mock(2, 1);
        due("one has two", x.rings(true), 0);
        due("it is a RING still", x.rings(false), 1);
    }

    private static void walksAndPlace() {
        Bounds.says("21 walks: NONE: not so many");
        due("walks(0) without GUILDS", new InsultRow().walks(0), NONE);
        due("walks(most int) without GUILDS", new InsultRow().walks(MOST), NONE);
        InsultRow x = Bounds.of(Bounds.STAR + "mocks 0 9;");
        // Behind 0, which is mocked from outside the RING of 0 and 9, walks 1; all others have a CAKE.
        int[] row = {100, 2, 100, 3, 100, 4, 100, 5, 100, 6, 100, 7, 100, 8, 100, 9, 0, 1};
        for (int k = 0; k < row.length; k++) {
            due("walks(" + k + ")", x.walks(k), row[k]);
        }
        for (int k : new int[] {18, 19, 20, 21, MOST}) {
            due("walks(" + k + ")", x.walks(k), NONE);
        }
        due("22 place of the last", x.place(1), 17);
        due("22 place of the first behind a CAKE", x.place(2), 1);
        due("22 place of the very first", Bounds.of(Bounds.LINE).place(0), 0);
        due("walks(9) of ten", Bounds.of(Bounds.LINE).walks(9), 9);
        due("walks(10) of ten", Bounds.of(Bounds.LINE).walks(10), NONE);
        Bounds.says("21 walks: k is below 0");
        for (int k : new int[] {-1, LEAST}) {
            Bounds.refused(FRESH, "walks(" + k + ")", Bounds.ARGUMENT, y -> y.walks(k));
            Bounds.refused(MIDWAY, "walks(" + k + ")", Bounds.ARGUMENT, y -> y.walks(k));
            Bounds.refused(FULL, "walks(" + k + ")", Bounds.ARGUMENT, y -> y.walks(k));
        }
        needsAGuild("22 place", (y, g) -> y.place(g));
    }

    private static void length() {
        Bounds.says("23 length");
        due("without GUILDS", new InsultRow().length(), 0);
        due("the least", Bounds.of("guild;").length(), 1);
        due("the longest", Bounds.of("guild long 9;".repeat(10) + "mocks 1 0;mocks 2 0;mocks 3 0;mocks 4 0;mocks 5 0;mocks 6 0;"
                + "mocks 7 0;mocks 8 0;mocks 9 0;").length(), 98);
    }

    private static void persuaded() {
        Bounds.says("24 persuaded: another what");
        bounded(FRESH, "persuaded(what)", 0, 1, (x, what) -> x.persuaded(what));
        bounded(MIDWAY, "persuaded(what)", 0, 1, (x, what) -> x.persuaded(what));
        bounded(FULL, "persuaded(what)", 0, 1, (x, what) -> x.persuaded(what));
        Bounds.says("3 PERSUADED: the fewest, of like ones the least set as bits");
        String[] texts = {"", "guild;", Bounds.LINE, "guild;guild;", "guild;guild;mocks 0 1;mocks 1 0;", Bounds.TEN, Bounds.STAR,
            Bounds.LINE + "mocks 0 9;"};
        int[] which = {0, 0, 0, 1, 1, 511, 510, 1};
        for (int i = 0; i < texts.length; i++) {
            due("which of " + texts[i], Bounds.of(texts[i]).persuaded(1), which[i]);
            due("how many of " + texts[i], Bounds.of(texts[i]).persuaded(0), Integer.bitCount(which[i]));
        }
    }

    private static void peace() {
        Bounds.says("25 peace: another what");
        bounded(FRESH, "peace(what)", 0, 1, (x, what) -> x.peace(what));
        bounded(MIDWAY, "peace(what)", 0, 1, (x, what) -> x.peace(what));
        bounded(FULL, "peace(what)", 0, 1, (x, what) -> x.peace(what));
        Bounds.says("3 PEACE: the fewest, of like ones the least set");
        String[] texts = {"", "guild;", Bounds.LINE, Bounds.LINE + "mocks 0 9;",
            Bounds.TEN + "mocks 0 1;mocks 1 0;mocks 2 3;mocks 3 2;mocks 4 5;mocks 5 4;mocks 6 7;mocks 7 6;mocks 8 9;mocks 9 8;"};
        int[] which = {0, 0, 0, 1, 1 + 4 + 16 + 64 + 256};
        for (int i = 0; i < texts.length; i++) {
            due("which of " + texts[i], Bounds.of(texts[i]).peace(1), which[i]);
            due("how many of " + texts[i], Bounds.of(texts[i]).peace(0), Integer.bitCount(which[i]));
        }
    }

    private static void goatAndBelow() {
        Bounds.says("26 goat: the first; NONE: nobody MOCKS");
        due("without GUILDS", new InsultRow().goat(), NONE);
        due("nobody MOCKS", Bounds.of(Bounds.TEN).goat(), NONE);
        due("one MOCKER is enough", Bounds.of(Bounds.TEN + "mocks 0 9;").goat(), 9);
        due("the first of like ones", Bounds.of(Bounds.TEN + "mocks 0 9;mocks 1 8;").goat(), 8);
        due("one more", Bounds.of(Bounds.TEN + "mocks 0 9;mocks 1 8;mocks 2 9;").goat(), 9);
        due("nine", Bounds.of(Bounds.STAR).goat(), 0);
        needsAGuild("27 below", (x, g) -> x.below(g));
        Bounds.says("27 below: till one comes again or MOCKS none (unlike ones, it itself aside)");
        InsultRow x = Bounds.of(Bounds.LINE);
        for (int g = 0; g < 10; g++) {
            due("below(" + g + ") of a line", x.below(g), g);
        }
        x.mock(0, 9);
        for (int g = 0; g < 10; g++) {
            due("below(" + g + ") of a RING", x.below(g), 9);
        }
        x.mock(0, 1);
        due("one behind a RING of two", x.below(9), 9);
        due("one of a RING of two", x.below(0), 1);
        InsultRow y = Bounds.of(Bounds.TEN + "mocks 9 8;mocks 7 9;");
        int[] want = {0, 0, 0, 0, 0, 0, 0, 2, 0, 1};
        for (int g = 0; g < 10; g++) {
            due("below(" + g + ") of the last three", y.below(g), want[g]);
        }
    }

    private static void cakesAndChains() {
        needsAGuild("28 cakesOf", (x, g) -> x.cakesOf(g));
        due("the most", Bounds.of(Bounds.STAR).cakesOf(0), 8);
        due("none: no MOCKERS", Bounds.of(Bounds.STAR).cakesOf(1), 0);
        due("none: one MOCKER", Bounds.of(Bounds.LINE).cakesOf(0), 0);
        due("the least of a SHUT RING", Bounds.of(Bounds.LINE + "mocks 0 9;").cakesOf(0), 1);
        due("another of it", Bounds.of(Bounds.LINE + "mocks 0 9;").cakesOf(9), 0);
        needsAGuild("29 chainOf", (x, g) -> x.chainOf(g));
        due("all", Bounds.of(Bounds.LINE).chainOf(9), 10);
        due("one alone", Bounds.of(Bounds.TEN).chainOf(9), 1);
        due("one behind a CAKE", Bounds.of(Bounds.STAR).chainOf(9), 1);
        due("CAKES aside", Bounds.of(Bounds.LINE + "mocks 0 9;").chainOf(0), 10);
        Bounds.says("30 longest: CAKES aside; 0 without GUILDS");
        due("without GUILDS", new InsultRow().longest(), 0);
        due("one", Bounds.of("guild;").longest(), 1);
        due("ten", Bounds.of(Bounds.LINE).longest(), 10);
        due("ten and a CAKE", Bounds.of(Bounds.LINE + "mocks 0 9;").longest(), 10);
    }

    private static void freeFor() {
        needsAGuild("31 freeFor", (x, g) -> x.freeFor(g));
        Bounds.says("31 freeFor: none, all others, no more CAKES than now");
        due("one alone", Bounds.of("guild;").freeFor(0), 0);
        due("all others", Bounds.of(Bounds.TEN).freeFor(0), 1022);
        due("all others of the last", Bounds.of(Bounds.TEN).freeFor(9), 511);
        due("it MAY none", Bounds.of(Bounds.TEN + "may 1=2;").freeFor(0), 0);
        due("each would make one CAKE more", Bounds.of(Bounds.LINE).freeFor(0), 0);
        due("that which it does, too", Bounds.of(Bounds.LINE).freeFor(9), 256);
    }

    // ---- on the way

    private static void atAndArrives() {
        needsAGuild("32 at", (x, g) -> x.at(g, 0));
        Bounds.says("32 at: the minute is below 0");
        for (int minute : new int[] {-1, LEAST}) {
            Bounds.refused(MIDWAY, "at(0, " + minute + ")", Bounds.ARGUMENT, x -> x.at(0, minute));
            Bounds.refused(FULL, "at(9, " + minute + ")", Bounds.ARGUMENT, x -> x.at(9, minute));
        }
        Bounds.says("32 at: NONE: it isn't on the way (before, behind, it is nowhere)");
        InsultRow x = Bounds.of(Bounds.LINE + Bounds.TWELVE_STREETS);
        for (int g = 0; g < 10; g++) {
            if (g > 0) {
                due("before, " + g, x.at(g, g - 1), NONE);
            }
            due("the first step, " + g, x.at(g, g), 0);
            due("the last step, " + g, x.at(g, g + 240), 240);
            due("behind, " + g, x.at(g, g + 241), NONE);
            due("far behind, " + g, x.at(g, MOST), NONE);
            due("33 arrives(" + g + ")", x.arrives(g), g + 241);
        }
        due("without STREETS", Bounds.of("guild;").at(0, 0), 0);
        due("without STREETS, behind", Bounds.of("guild;").at(0, 1), NONE);
        due("33 arrives without STREETS", Bounds.of("guild;").arrives(0), 1);
        due("33 arrives behind a CAKE", Bounds.of("guild;guild;mocks 0 1;mocks 1 0;").arrives(1), 2);
        needsAGuild("33 arrives", (y, g) -> y.arrives(g));
    }

    private static void meets() {
        needsAGuild("34 meets(g, ..)", (x, g) -> x.meets(g, g == 1 ? 2 : 1));
        needsAGuild("34 meets(.., h)", (x, h) -> x.meets(h == 0 ? 1 : 0, h));
        Bounds.says("34 meets: both one");
        Bounds.refused(MIDWAY, "meets(0, 0)", Bounds.ARGUMENT, x -> x.meets(0, 0));
        Bounds.refused(MIDWAY, "meets(4, 4)", Bounds.ARGUMENT, x -> x.meets(4, 4));
        Bounds.refused(FULL, "meets(9, 9)", Bounds.ARGUMENT, x -> x.meets(9, 9));
        Bounds.says("3 MEETING: steps being 3 apart or more");
        int[] first = {0, NONE, NONE, 6, 7, 7, 8, 8, 9, 9};
        for (int apart = 1; apart <= 9; apart++) {
            due(apart + " apart", Bounds.of("guild long " + apart + ";guild;" + THERE_AND_BACK).meets(0, 1), first[apart]);
            due(apart + " apart", Bounds.of("guild long " + apart + ";guild;" + THERE_AND_BACK).meets(1, 0), first[apart]);
        }
        Bounds.says("3 MEETING: both on the way");
        due("one minute, the last of the first", Bounds.of("guild long 9;guild;guild;" + THERE_AND_BACK).meets(0, 2), 10);
        due("not a minute", Bounds.of("guild long 9;guild long 2;guild;" + THERE_AND_BACK).meets(0, 2), NONE);
        due("without STREETS", Bounds.of("guild;guild;").meets(0, 1), NONE);
        Bounds.says("3 MEETING: places next to one another (x or y 1 more or less, not both)");
        String hook = "guild;street east 2;street north 1;street west 2;";
        due("y 1 more, 3 apart", Bounds.of("guild long 3;" + hook).meets(0, 1), 4);
        due("both, 4 apart", Bounds.of("guild long 4;" + hook).meets(0, 1), NONE);
        due("y 1 more, 5 apart", Bounds.of("guild long 5;" + hook).meets(0, 1), 5);
        due("not both on the way", Bounds.of("guild long 6;" + hook).meets(0, 1), NONE);
        String wide = "guild;street east 3;street north 2;street west 3;";
        due("y 2 more", Bounds.of("guild long 4;" + wide).meets(0, 1), NONE);
        due("y 2 more", Bounds.of("guild long 8;" + wide).meets(0, 1), NONE);
        due("x 1 less", Bounds.of("guild long 3;guild;street south 2;street west 1;street north 2;").meets(0, 1), 4);
        due("x 1 more", Bounds.of("guild long 3;guild;street south 2;street east 1;street north 2;").meets(0, 1), 4);
        due("y 1 less", Bounds.of("guild long 3;guild;street west 2;street south 1;street east 2;").meets(0, 1), 4);
    }

    private static void bows() {
        Bounds.says("35 bows: how many minutes have a MEETING of some two GUILDS");
        due("without GUILDS", new InsultRow().bows(), 0);
        due("one GUILD", Bounds.of("guild;" + THERE_AND_BACK).bows(), 0);
        due("2 apart", Bounds.of("guild long 2;guild;" + THERE_AND_BACK).bows(), 0);
        due("3 apart", Bounds.of("guild long 3;guild;" + THERE_AND_BACK).bows(), 2);
        due("4 apart", Bounds.of("guild long 4;guild;" + THERE_AND_BACK).bows(), 1);
        // Minute 9: 0 and 1; minute 10: 0 and 1, 0 and 2, which is one minute.
        due("two MEETINGS in one minute", Bounds.of("guild long 9;guild;guild;" + THERE_AND_BACK).bows(), 2);
    }

    private static void melted() {
        Bounds.says("36 melted: the minute, n isn't 0 to 999");
        for (Bounds.Scene scene : Bounds.SCENES) {
            bounded(scene, "melted(minute, 0)", 0, 999, (x, minute) -> x.melted(minute, 0));
            bounded(scene, "melted(minute, 999)", 0, 999, (x, minute) -> x.melted(minute, 999));
            bounded(scene, "melted(0, n)", 0, 999, (x, n) -> x.melted(0, n));
            bounded(scene, "melted(999, n)", 0, 999, (x, n) -> x.melted(999, n));
        }
        Bounds.says("3 MELTED: if as many of these minutes as it says fall on its being on the way");
        InsultRow x = Bounds.of("guild melts 99;" + "street east 20;".repeat(5));
        int[][] rain = {{0, 0, 0}, {0, 98, 0}, {0, 99, 1}, {0, 999, 1}, {1, 98, 0}, {1, 99, 1}, {2, 98, 0}, {2, 99, 1}, {3, 99, 0},
            {3, 999, 0}, {2, 999, 1}, {999, 999, 0}};
        for (int[] r : rain) {
            due("melted(" + r[0] + ", " + r[1] + ")", x.melted(r[0], r[1]), r[2]);
        }
        InsultRow y = Bounds.of("guild melts 1;guild melts 1;guild;");
        int[][] shower = {{0, 0, 0}, {0, 1, 1}, {0, 2, 3}, {1, 0, 0}, {1, 1, 2}, {1, 999, 2}, {2, 1, 0}, {0, 999, 3}, {2, 999, 0}};
        for (int[] r : shower) {
            due("melted(" + r[0] + ", " + r[1] + ") without STREETS", y.melted(r[0], r[1]), r[2]);
        }
        due("ten", Bounds.of("guild melts 1;".repeat(10)).melted(0, 10), 1023);
        due("one has not come yet", Bounds.of("guild melts 1;".repeat(10)).melted(0, 9), 511);
    }

    private static void noise() {
        Bounds.says("37 noise: of all GUILDS just behind a GUILD (not a CAKE)");
        String loud = "guild loud 9 verse 9;";
        due("without GUILDS", new InsultRow().noise(), 0);
        due("one", Bounds.of(loud).noise(), 0);
        due("two CHAINS", Bounds.of(loud + loud).noise(), 0);
        due("one CHAIN", Bounds.of(loud + loud + "mocks 1 0;").noise(), 81);
        due("behind a CAKE", Bounds.of(loud + loud + loud + "mocks 1 0;mocks 2 0;").noise(), 81);
        due("the most", Bounds.of(loud.repeat(10) + Bounds.LINE.substring(60)).noise(), 729);
    }

    private static void quietest() {
        Bounds.says("38 quietest: a set with others than GUILDS");
        for (int set : new int[] {-1, 32, 33, 63, 1024, LEAST, MOST, 1 << 30}) {
            Bounds.refused(MIDWAY, "quietest(" + set + ", 0)", Bounds.ARGUMENT, x -> x.quietest(set, 0));
        }
        for (int set : new int[] {-1, 1024, 1025, LEAST, MOST}) {
            Bounds.refused(FULL, "quietest(" + set + ", 0)", Bounds.ARGUMENT, x -> x.quietest(set, 0));
        }
        for (int set : new int[] {-1, 1, 2, LEAST}) {
            Bounds.refused(FRESH, "quietest(" + set + ", 0)", Bounds.ARGUMENT, x -> x.quietest(set, 0));
        }
        takes(MIDWAY, "quietest(31, 0)", x -> x.quietest(31, 0));
        takes(MIDWAY, "quietest(16, 0)", x -> x.quietest(16, 0));
        takes(FULL, "quietest(512, 0)", x -> x.quietest(512, 0));
        due("an empty set", FRESH.make().quietest(0, 0), 0);
        due("its first", FRESH.make().quietest(0, 10), NONE);
        Bounds.says("38 quietest: more than 8");
        for (int set : new int[] {511, 1022, 1023, 1023 - 16}) {
            Bounds.refused(FULL, "quietest(" + set + ", 0)", Bounds.ARGUMENT, x -> x.quietest(set, 0));
        }
        for (int set : new int[] {255, 1020, 1023 - 3, 1023 - 513}) {
            takes(FULL, "quietest(" + set + ", 17)", x -> x.quietest(set, 17));
        }
        Bounds.says("38 quietest: another what (10 to 17)");
        for (int what : new int[] {-1, 1, 9, 18, LEAST, MOST}) {
            Bounds.refused(MIDWAY, "quietest(31, " + what + ")", Bounds.ARGUMENT, x -> x.quietest(31, what));
            Bounds.refused(FRESH, "quietest(0, " + what + ")", Bounds.ARGUMENT, x -> x.quietest(0, what));
        }
        Bounds.says("38 quietest: the k-th GUILD (NONE: not so many)");
        InsultRow x = Bounds.of("guild loud 9 verse 9;".repeat(10));
        int set = 0;
        for (int g = 2; g < 10; g++) {
            set |= 1 << g;
            for (int k = 0; k < 8; k++) {
                due("quietest(" + set + ", " + (10 + k) + ")", x.quietest(set, 10 + k), k <= g - 2 ? k + 2 : NONE);
            }
            due("quietest(" + set + ", 0)", x.quietest(set, 0), 81 * (g - 2));
        }
        for (int g = 9; g >= 2; g--) {
            due("fewer again, " + set, x.quietest(set, 0), 81 * (g - 2));
            due("the last of " + set, x.quietest(set, 10 + g - 2), g);
            set &= ~(1 << g);
        }
        due("none again", x.quietest(0, 0), 0);
        due("the first of none", x.quietest(0, 10), NONE);
        Bounds.says("3 QUIETEST: of like ones the first by numbers");
        InsultRow y = Bounds.of("guild loud 1 verse 1;guild loud 1 verse 1;guild;");
        int[] order = {0, 2, 1};
        due("its NOISE", y.quietest(7, 0), 0);
        for (int k = 0; k < 3; k++) {
            due("quietest(7, " + (10 + k) + ")", y.quietest(7, 10 + k), order[k]);
        }
    }

    // ---- nights

    private static void comesBack() {
        Bounds.says("39 comesBack: another what");
        for (Bounds.Scene scene : Bounds.SCENES) {
            bounded(scene, "comesBack(what)", 0, 1, (x, what) -> x.comesBack(what));
        }
        Bounds.says("3 COMES BACK: after how many NIGHTS that was, and how many NIGHTS lie between");
        due("at once", new InsultRow().comesBack(0), 0);
        due("one between", new InsultRow().comesBack(1), 1);
        // Some turn in each of ten NIGHTS, and none behind these.
        String slow = "guild rank 93 long 4;guild rank 36 long 2;guild rank 60 long 3;guild rank 61 long 6;guild rank 45 long 2;"
                + "guild rank 89 long 7;guild rank 38 long 3;guild rank 23 long 3;guild rank 85 long 5;guild rank 93 long 9;"
                + "mocks 0 8;mocks 1 0;mocks 2 6;mocks 3 2;mocks 4 3;mocks 5 8;mocks 6 1;mocks 7 0;mocks 8 9;mocks 9 4;"
                + "answers 879*713+lb*mutual<mutual*3 and 524*ra+1*325=4*1 or 3*716-742*602>ra*685 or lb*ma+108*mutual>ma*rb"
                + " or 2*lb-407*221=mutual*rb;";
        InsultRow x = Bounds.of(slow);
        due("after ten NIGHTS", x.comesBack(0), 10);
        due("one between", x.comesBack(1), 1);
        for (int i = 1; i <= 10; i++) {
            due("some turn in night " + i, x.nights(1) > 0 ? 1 : 0, 1);
            due("after " + (10 - i) + " NIGHTS", x.comesBack(0), 10 - i);
        }
        due("nobody turns", x.nights(1), 0);
        InsultRow y = Bounds.of("guild;guild;guild;mocks 0 1;mocks 1 2;mocks 2 0;answers 1=1;");
        due("a RING that turns, after", y.comesBack(0), 0);
        due("a RING that turns, between", y.comesBack(1), 2);
        Bounds.says("3 COMES BACK: who MOCKS whom; night: goes on");
        InsultRow z = Bounds.of("guild;guild;mocks 0 1;answers night=1;");
        due("the night alone is another one", z.comesBack(0), 0);
        due("one between", z.comesBack(1), 1);
        z.nights(1);
        due("from now on, after", z.comesBack(0), 1);
        due("from now on, between", z.comesBack(1), 1);
    }

    private static void mocksIn() {
        needsAGuild("40 mocksIn", (x, g) -> x.mocksIn(g, 0));
        Bounds.says("40 mocksIn: in n NIGHTS (0 to 1,000); IllegalArgumentException: n");
        bounded(MIDWAY, "mocksIn(0, n)", 0, 1000, (x, n) -> x.mocksIn(0, n));
        bounded(FULL, "mocksIn(9, n)", 0, 1000, (x, n) -> x.mocksIn(9, n));
        InsultRow x = Bounds.of("guild;guild;mocks 0 1;answers night=999;");
        due("mocksIn(1, 0)", x.mocksIn(1, 0), NONE);
        due("mocksIn(1, 999)", x.mocksIn(1, 999), NONE);
        due("mocksIn(1, 1000)", x.mocksIn(1, 1000), 0);
        due("mocksIn(0, 1000)", x.mocksIn(0, 1000), 1);
        due("no NIGHTS go by", x.count(4), 0);
    }

    private static void seen() {
        needsATray("41 seen", (x, t) -> x.seen(t));
        Bounds.says("41 seen: not as many as GUILDS");
        for (int many : new int[] {0, 1, 4, 6, 30}) {
            Bounds.refused(() -> {
                InsultRow x = Bounds.midway();
                x.tray(3, 2, many);
                return x;
            }, "seen of " + many, Bounds.ARGUMENT, x -> x.seen(3));
        }
        Bounds.refused(FULL, "seen of 30", Bounds.ARGUMENT, x -> x.seen(0));
        takes(MIDWAY, "seen of 5", x -> x.seen(1));
        InsultRow none = new InsultRow();
        none.tray(0, 0, 0);
        due("no GUILDS, no numbers", none.seen(0), 0);
        none.tray(0, 0, 1);
        due("no GUILDS, a number", Bounds.answerOf(x -> x.seen(0), none).equals("IllegalArgumentException") ? 1 : 0, 1);
        Bounds.says("3 SEEN: the fewest NIGHTS from now (0 to 200)");
        InsultRow x = Bounds.of("guild;guild;mocks 0 1;answers night=199;");
        Bounds.put(x, 0, 0, -1, 0);
        due("by 200 NIGHTS", x.seen(0), 200);
        x.nights(1);
        due("by 199 NIGHTS", x.seen(0), 199);
        Bounds.put(x, 0, 0, 1, -1);
        due("by 0 NIGHTS", x.seen(0), 0);
        Bounds.says("41 seen: NONE: not in these");
        InsultRow y = Bounds.of("guild;guild;mocks 0 1;answers night=200;");
        Bounds.put(y, 0, 0, -1, 0);
        due("not by 201", y.seen(0), NONE);
        y.nights(1);
        due("by 200 from now", y.seen(0), 200);
        Bounds.put(y, 0, 0, 99, -1);
        due("never", y.seen(0), NONE);
    }

    private static InsultRow sight(int guilds, int place, long number) {
        InsultRow x = Bounds.of("guild;".repeat(guilds));
        x.tray(1, 3, guilds);
        for (int g = 0; g < guilds; g++) {
            x.write(1, g, -1);
        }
        x.write(1, place, number);
        return x;
    }

    private static void seenNumbers() {
        Bounds.says("41 seen: numbers that are none such");
        for (int n = 2; n <= 10; n += 4) {
            int guilds = n;
            for (int place : new int[] {0, n - 1}) {
                for (long number : new long[] {-2, n, n + 1, 98, 100, 199, -100, 1L << 32, (1L << 32) + 99, (1L << 32) - 1,
                    Long.MIN_VALUE, Long.MAX_VALUE}) {
                    Bounds.refused(() -> sight(guilds, place, number), "seen of " + number, Bounds.ARGUMENT, x -> x.seen(1));
                }
                due("NONE: not seen", sight(n, place, -1).seen(1), 0);
                due("99 none", sight(n, place, 99).seen(1), 0);
                due("the last GUILD", sight(n, place, n - 1).seen(1), NONE);
                due("the first GUILD", sight(n, place, 0).seen(1), NONE);
            }
        }
    }

    private static void ever() {
        needsAGuild("42 ever", (x, g) -> x.ever(g, 0));
        Bounds.says("42 ever: NIGHTS 0 to n (0 to 1,000); IllegalArgumentException: n");
        bounded(MIDWAY, "ever(0, n)", 0, 1000, (x, n) -> x.ever(0, n));
        bounded(FULL, "ever(9, n)", 0, 1000, (x, n) -> x.ever(9, n));
        InsultRow x = Bounds.of("guild;guild;mocks 0 1;answers night=999;");
        due("ever(1, 0): now", x.ever(1, 0), 1);
        due("ever(0, 999)", x.ever(0, 999), 0);
        due("ever(0, 1000)", x.ever(0, 1000), 2);
        InsultRow y = Bounds.of("guild;guild;guild;mocks 0 1;mocks 1 2;answers 1=1;");
        due("who did in NIGHT 0 alone", y.ever(2, 1000), 2);
    }

    private static void fewest() {
        Bounds.says("43 fewest: NIGHTS 0 to n (0 to 200); IllegalArgumentException: n");
        for (Bounds.Scene scene : Bounds.SCENES) {
            bounded(scene, "fewest(n, 0)", 0, 200, (x, n) -> x.fewest(n, 0));
        }
        Bounds.says("43 fewest: another what");
        for (Bounds.Scene scene : Bounds.SCENES) {
            bounded(scene, "fewest(0, what)", 0, 1, (x, what) -> x.fewest(0, what));
            bounded(scene, "fewest(200, what)", 0, 1, (x, what) -> x.fewest(200, what));
        }
        Bounds.says("43 fewest: how many, the first such NIGHT");
        // 2 answers 3 behind NIGHT 200: a RING that 4 mocks has one CAKE less.
        InsultRow x = Bounds.of("guild;guild;guild;guild rank 1;guild;mocks 1 0;mocks 2 0;mocks 3 2;mocks 4 2;"
                + "answers rb=1 and night=199;");
        due("fewest(0, 0)", x.fewest(0, 0), 2);
        due("fewest(199, 0)", x.fewest(199, 0), 2);
        due("fewest(199, 1)", x.fewest(199, 1), 0);
        due("fewest(200, 0)", x.fewest(200, 0), 1);
        due("fewest(200, 1)", x.fewest(200, 1), 200);
    }

    // ---- trays, images

    private static void tray() {
        Bounds.says("44 tray: no such TRAY");
        for (Bounds.Scene scene : Bounds.SCENES) {
            for (int t : new int[] {-1, 4, LEAST, MOST}) {
                Bounds.refused(scene, "tray(" + t + ", 0, 1)", Bounds.NO_SUCH, x -> { x.tray(t, 0, 1); return 0; });
            }
            Bounds.says("44 tray: no such sort");
            bounded(scene, "tray(0, sort, 5)", 0, 3, (x, sort) -> { x.tray(0, sort, 5); return 0; });
            bounded(scene, "tray(3, sort, 30)", 0, 3, (x, sort) -> { x.tray(3, sort, 30); return 0; });
            Bounds.says("44 tray: or not so many (0 to 30 numbers)");
            bounded(scene, "tray(0, 0, many)", 0, 30, (x, many) -> { x.tray(0, 0, many); return 0; });
            bounded(scene, "tray(3, 3, many)", 0, 30, (x, many) -> { x.tray(3, 3, many); return 0; });
        }
        Bounds.says("44 tray: a row of so many 0s");
        InsultRow x = Bounds.of("guild;guild;");
        for (int t = 0; t < 4; t++) {
            int tray = t;
            Bounds.put(x, tray, 3, -1, -1, -1);
            due("ahead", x.judge(tray, 0), NONE);
            x.tray(tray, 0, 30);
            for (int place = 0; place < 30; place++) {
                due("a 0 at place " + place, x.judge(tray, 0), place);
                x.write(tray, place, -1);
            }
            x.tray(tray, 2, 0);
            due("no 0s", x.judge(tray, 0), NONE);
            due("no places", Bounds.answerOf(y -> y.write(tray, 0, 1), x).equals("IndexOutOfBoundsException") ? 1 : 0, 1);
        }
    }

    private static void write() {
        needsATray("45 write", (x, t) -> x.write(t, 0, 1));
        Bounds.says("45 write: it has no such place");
        // MIDWAY: six places in TRAY 0, five in 1, none in 2; FULL: thirty in each.
        int[] places = {6, 5, 0};
        for (int i = 0; i < 3; i++) {
            int t = i;
            for (int place : new int[] {-1, places[t], 30, LEAST, MOST}) {
                Bounds.refused(MIDWAY, "write(" + t + ", " + place + ", 1)", Bounds.INDEX, x -> x.write(t, place, 1));
            }
        }
        for (int i = 0; i < 4; i++) {
            int t = i;
            for (int place : new int[] {-1, 30, LEAST, MOST}) {
                Bounds.refused(FULL, "write(" + t + ", " + place + ", 1)", Bounds.INDEX, x -> x.write(t, place, 1));
            }
            due("the last place", FULL.make().write(t, 29, 7), 7);
            due("the first place", FULL.make().write(t, 0, 7), 7);
        }
        due("the last of six", MIDWAY.make().write(0, 5, 7), 7);
        due("the last of five", MIDWAY.make().write(1, 4, 7), 7);
        Bounds.says("45 write: cut to its sort (8, 16, 32, 64 bits): as it is there");
        InsultRow x = new InsultRow();
        for (int sort = 0; sort < 4; sort++) {
            x.tray(sort, sort, 1);
            long most = (1L << (8 << sort) - 1) - 1;
            long least = -most - 1;
            due("the most of sort " + sort, x.write(sort, 0, most), most);
            due("the least of sort " + sort, x.write(sort, 0, least), least);
            due("one above the most of sort " + sort, x.write(sort, 0, most + 1), least);
            due("one below the least of sort " + sort, x.write(sort, 0, least - 1), most);
            due("-1 in sort " + sort, x.write(sort, 0, -1), -1);
            due("0 in sort " + sort, x.write(sort, 0, 0), 0);
            due("twice round in sort " + sort, x.write(sort, 0, 2 * (most + 1)), 0);
            due("the least long in sort " + sort, x.write(sort, 0, Long.MIN_VALUE), sort == 3 ? Long.MIN_VALUE : 0);
            due("the most long in sort " + sort, x.write(sort, 0, Long.MAX_VALUE), sort == 3 ? Long.MAX_VALUE : -1);
        }
    }

    private static void copy() {
        needsATray("46 copy", (x, t) -> x.copy(t));
        Bounds.says("46 copy: from its first place on, as many as it has places: how many");
        for (int n = 0; n <= 10; n++) {
            for (int many : new int[] {0, 1, n - 1, n, n + 1, 30}) {
                if (many >= 0) {
                    InsultRow x = Bounds.of("guild;".repeat(n));
                    x.tray(0, 0, many);
                    due(n + " GUILDS, " + many + " places", x.copy(0), Math.min(n, many));
                }
            }
        }
        Bounds.leaves(MIDWAY, "copy to no places", 0, x -> x.copy(2));
        InsultRow none = new InsultRow();
        Bounds.put(none, 0, 0, 55);
        due("no GUILDS", none.copy(0), 0);
        due("the number stays", none.judge(0, 1), 1);
        Bounds.says("46 copy: whom GUILDS MOCK (99 none)");
        InsultRow x = Bounds.of("guild;guild;mocks 0 1;");
        Bounds.put(x, 0, 1, 55, 55, 100, 99);
        due("two of four", x.copy(0), 2);
        // Now 0 MOCKS 1, 0 MOCKS none, and as it was: 1 MOCKS 0, 0 MOCKS none.
        due("the others stay", x.judge(0, 0), NONE);
        due("only 1 MOCKS then", x.judge(0, 2), 1);
        x.tray(1, 0, 2);
        x.copy(1);
        due("as it is now", x.seen(1), 0);
    }

    private static void images() {
        for (Bounds.Scene scene : Bounds.SCENES) {
            Bounds.says("47 image: no such one");
            for (int i : new int[] {-1, 3, LEAST, MOST}) {
                Bounds.refused(scene, "image(" + i + ")", Bounds.NO_SUCH, x -> { x.image(i); return 0; });
            }
            Bounds.says("48 restore: no such one");
            for (int i : new int[] {-1, 3, LEAST, MOST}) {
                Bounds.refused(scene, "restore(" + i + ")", Bounds.NO_SUCH, x -> { x.restore(i); return 0; });
            }
        }
        Bounds.says("48 restore: none was made");
        Bounds.refused(MIDWAY, "restore(2)", Bounds.STATE, x -> { x.restore(2); return 0; });
        takes(MIDWAY, "restore(0)", x -> { x.restore(0); return 0; });
        takes(FULL, "restore(2)", x -> { x.restore(2); return 0; });
        Bounds.says("3 IMAGES: all but the tape, the FAULT and TRAYS, as it was");
        InsultRow x = new InsultRow();
        for (int i = 0; i < 3; i++) {
            x.image(i);
            Bounds.tell(x, "guild;".repeat(i + 1));
        }
        Bounds.tell(x, "guild ?");
        Bounds.put(x, 0, 1, 99, -1);
        Bounds.feed(x, "guild;");
        for (int i = 2; i >= 0; i--) {
            x.restore(i);
            due("GUILDS of IMAGE " + i, x.count(1), i);
            due("LINES of IMAGE " + i, x.count(0), i);
            due("the tape stays", x.count(7), 20);
            due("the FAULT stays", x.fault(0), 1);
            due("its place stays", x.fault(1), 6);
            due("TRAYS stay", x.judge(0, 0), i == 0 ? 0 : NONE);
        }
        due("an IMAGE of no GUILDS", x.walks(0), NONE);
        Bounds.says("48 restore: all is as in an IMAGE, DEEDS that can be UNDONE, too");
        InsultRow y = FULL.make();
        y.image(1);
        y.undo(10);
        due("no DEEDS", y.count(6), 0);
        y.restore(1);
        due("ten DEEDS", y.count(6), 10);
        due("the latest", y.undo(1), 9);
        due("its RANK was another one", y.guild(9, 1), 0);
        due("all others", y.undo(9), 0);
        InsultRow z = Bounds.of("guild rank 50;");
        for (int i = 1; i <= 10; i++) {
            z.rank(0, i);
        }
        z.image(2);
        for (int i = 11; i <= 30; i++) {
            z.rank(0, i);
        }
        z.restore(2);
        due("the eldest, too", z.undo(10), 0);
        due("the RANK ahead of it", z.guild(0, 1), 50);
        z.restore(2);
        for (int i = 1; i <= 10; i++) {
            due("one by one", z.undo(1), 10 - i);
            due("the RANK then", z.guild(0, 1), i < 10 ? 10 - i : 50);
        }
        z.restore(2);
        z.rank(0, 99);
        due("one more, the eldest is forgotten", z.undo(10), 0);
        due("the RANK behind that", z.guild(0, 1), 1);
    }

    private static void count() {
        Bounds.says("49 count: NONE for others");
        for (Bounds.Scene scene : Bounds.SCENES) {
            for (int what : new int[] {-1, 10, 11, LEAST, MOST}) {
                due("count(" + what + ")", scene.make().count(what), NONE);
            }
        }
        int[] full = {33, 10, 12, 241, FULL.make().count(4), FULL.make().count(5), 10, 900, 1, 1};
        int[] midway = {15, 5, 4, 11, 2, MIDWAY.make().count(5), 5, 60, 1, 1};
        for (int what = 0; what < 10; what++) {
            due("count(" + what + ") of the most", FULL.make().count(what), full[what]);
            due("count(" + what + ") of some", MIDWAY.make().count(what), midway[what]);
        }
        Bounds.says("49 count: 5 GUILDS that MOCK one");
        due("none", Bounds.of(Bounds.TEN).count(5), 0);
        due("nine", Bounds.of(Bounds.STAR).count(5), 9);
        due("all", Bounds.of(Bounds.STAR + "mocks 0 1;").count(5), 10);
    }

    private static void severalThrows() {
        Bounds.says("Of several throws of a call that one comes that is told first");
        Class<?> noSuch = Bounds.NO_SUCH;
        for (int g : new int[] {-1, 5, LEAST, MOST}) {
            Bounds.refused(MIDWAY, "guild(" + g + ", 7)", noSuch, x -> x.guild(g, 7));
            Bounds.refused(MIDWAY, "may(" + g + ", " + g + ")", noSuch, x -> x.may(g, g) ? 1 : 0);
            Bounds.refused(MIDWAY, "rank(" + g + ", 100)", noSuch, x -> x.rank(g, 100));
            Bounds.refused(MIDWAY, "at(" + g + ", -1)", noSuch, x -> x.at(g, -1));
            Bounds.refused(MIDWAY, "meets(" + g + ", " + g + ")", noSuch, x -> x.meets(g, g));
            Bounds.refused(MIDWAY, "mocksIn(" + g + ", 1001)", noSuch, x -> x.mocksIn(g, 1001));
            Bounds.refused(MIDWAY, "ever(" + g + ", -1)", noSuch, x -> x.ever(g, -1));
        }
        Bounds.refused(MIDWAY, "step(-1, 2)", noSuch, x -> x.step(-1, 2));
        Bounds.refused(MIDWAY, "step(11, -1)", noSuch, x -> x.step(11, -1));
        Bounds.refused(FRESH, "step(1, 2)", noSuch, x -> x.step(1, 2));
        Bounds.refused(FRESH, "guild(0, 7)", noSuch, x -> x.guild(0, 7));
        Bounds.refused(FRESH, "may(0, 0)", noSuch, x -> x.may(0, 0) ? 1 : 0);
        Bounds.refused(FRESH, "week(1, 0)", Bounds.ARGUMENT, x -> x.week(1, 0));
        Bounds.refused(FRESH, "week(1, 31)", Bounds.ARGUMENT, x -> x.week(1, 31));
        for (int t : new int[] {-1, 4}) {
            Bounds.refused(MIDWAY, "judge(" + t + ", 4)", noSuch, x -> x.judge(t, 4));
            Bounds.refused(MIDWAY, "write(" + t + ", -1, 0)", noSuch, x -> x.write(t, -1, 0));
            Bounds.refused(MIDWAY, "tray(" + t + ", 4, 31)", noSuch, x -> { x.tray(t, 4, 31); return 0; });
        }
        Bounds.refused(MIDWAY, "judge(3, 4) of a MISSING TRAY", Bounds.STATE, x -> x.judge(3, 4));
        Bounds.refused(MIDWAY, "write(3, -1, 0) of a MISSING TRAY", Bounds.STATE, x -> x.write(3, -1, 0));
        Bounds.refused(MIDWAY, "seen(3) of a MISSING TRAY", Bounds.STATE, x -> x.seen(3));
        Bounds.refused(FRESH, "restore(3), none made", noSuch, x -> { x.restore(3); return 0; });
    }
}
