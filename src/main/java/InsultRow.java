import java.util.Arrays;
import java.util.NoSuchElementException;

/** Insult in procession: guilds that mock one another, the row they walk in, the nights that go by. */
public final class InsultRow {
    /** There is none. */
    public static final int NONE = -1;

    private static final int MOST_BYTES = 900;
    private static final int BYTES_A_FEED = 20;
    private static final int MOST_GUILDS = 10;
    private static final int MOST_RANK = 99;
    private static final int MOST_STREETS = 12;
    private static final int MOST_PACES = 20;
    private static final int MOST_DEEP = 6;
    private static final int MOST_DEEDS = 10;
    private static final int MOST_IN_ROW = 20;
    private static final int MOST_QUIET = 8;
    private static final int MOST_ON_TRAY = 30;
    private static final int TRAYS = 4;
    private static final int IMAGES = 3;
    private static final int NIGHTS_A_CALL = 60;
    private static final int FAR_NIGHTS = 1000;
    private static final int NEAR_NIGHTS = 200;
    private static final int MOST_RAIN = 999;
    private static final int KEPT_WITHIN = 1000000;
    private static final int CAKE = 100;
    private static final int NOBODY = 99;
    private static final int APART = 3;

    private static final int NO_TOKEN = 1;
    private static final int CANT_STAND = 2;
    private static final int OUT_OF_BOUNDS = 3;
    private static final int TOO_MANY = 4;

    private static final int NO_SUCH = 1;
    private static final int MAY_NOT = 2;

    // The kind of a word is its place here; each word ends with a blank.
    private static final String WORDS =
            "guild mocks may answers street rank long loud verse melts north east south west or and not ra rb la lb ma mb mutual night ";
    private static final int GUILD = 0;
    private static final int MOCKS = 1;
    private static final int MAY = 2;
    private static final int ANSWERS = 3;
    private static final int STREET = 4;
    private static final int RANK = 5;
    private static final int MELTS = 9;
    private static final int NORTH = 10;
    private static final int WEST = 13;
    private static final int OR = 14;
    private static final int AND = 15;
    private static final int NOT = 16;
    private static final int RA = 17;
    private static final int RB = 18;
    private static final int LA = 19;
    private static final int LB = 20;
    private static final int MA = 21;
    private static final int MB = 22;
    private static final int MUTUAL = 23;
    private static final int NIGHT = 24;

    // The kind of a sign is its place here, behind the words.
    private static final String SIGNS = ";+-*()[]=<>";
    private static final int SEMICOLON = 25;
    private static final int PLUS = 26;
    private static final int MINUS = 27;
    private static final int TIMES = 28;
    private static final int ROUND_OPEN = 29;
    private static final int ROUND_SHUT = 30;
    private static final int SQUARE_OPEN = 31;
    private static final int SQUARE_SHUT = 32;
    private static final int EQUAL = 33;
    private static final int LESS = 34;
    private static final int MORE = 35;
    private static final int NUMBER = 36;
    private static final int END = 37;
    private static final int BAD = 38;
    private static final int OTHER_WORD = 39;

    // In a law's code a number below this is an N, others are kinds of tokens, this much higher.
    private static final int CODE = 1000;

    // By FLAG: rank, long, loud, verse, melts.
    private static final int FLAGS = 5;
    private static final int[] FLAG_LEAST = {0, 1, 0, 0, 1};
    private static final int[] FLAG_MOST = {MOST_RANK, 9, 9, 9, 99};
    private static final int[] FLAG_FIRST = {0, 1, 0, 0, 0};

    // By WAY: north, east, south, west.
    private static final int[] STEP_X = {0, 1, 0, -1};
    private static final int[] STEP_Y = {1, 0, -1, 0};

    private final byte[] tape = new byte[MOST_BYTES];
    private int fed;
    private int faultKind;
    private int faultPlace = NONE;
    private final Reader reader = new Reader();
    private final Fair fair = new Fair(new Carnival());
    private final Fair[] images = new Fair[IMAGES];
    private final Tray[] trays = new Tray[TRAYS];
    private final Court court = new Court();
    private final Row row = new Row();
    private final Quiet quiet = new Quiet();
    // What nights would bring is tried on this one, so that the true standing stays.
    private final Standing trial = new Standing(new Carnival());
    private final long[] nightsGone = new long[FAR_NIGHTS + 1];

    /** No guilds, no streets, trays missing, an empty tape. */
    public InsultRow() {
    }

    // ---- the carnival

    /** Twenty bytes come behind those on the tape: how many it has; NONE if there would be too many. */
    public int feed(int a, int b, int c, int d, int e) {
        if (fed > MOST_BYTES - BYTES_A_FEED) {
            return NONE;
        }
        putBytes(a);
        putBytes(b);
        putBytes(c);
        putBytes(d);
        putBytes(e);
        return fed;
    }

    private void putBytes(int four) {
        for (int shift = 24; shift >= 0; shift -= 8) {
            if (fed < tape.length) {
                tape[fed] = (byte) (four >> shift);
                fed++;
            }
        }
    }

    /** The first n bytes of the tape are the carnival: how many lines; -10 less the fault. */
    public int carnival(int n) throws IllegalArgumentException {
        if (n < 0 || n > fed) {
            throw new IllegalArgumentException("the tape has not so many");
        }
        Carnival told = reader.read(tape, n);
        fed = 0;
        faultKind = reader.faultKind();
        faultPlace = reader.faultPlace();
        if (told == null) {
            return -10 - faultKind;
        }
        fair.open(told);
        return told.lines;
    }

    /** Of the latest carnival: its fault (what 0), the fault's place (1). */
    public int fault(int what) {
        if (what == 0) {
            return faultKind;
        }
        return what == 1 ? faultPlace : NONE;
    }

    /** Of a guild: whom it mocks, rank, long, loud, verse, melts, its mockers as bits. */
    public int guild(int g, int what) throws NoSuchElementException, IllegalArgumentException {
        needGuild(g);
        needWithin(what, 0, 6);
        Standing now = fair.now;
        switch (what) {
            case 0:
                return now.whom[g];
            case 1:
                return now.ranks[g];
            case 2:
                return now.carnival.longs[g];
            case 3:
                return now.carnival.louds[g];
            case 4:
                return now.carnival.verses[g];
            case 5:
                return now.carnival.melts[g];
            default:
                return now.mockers[g];
        }
    }

    /** Whether one may mock another one. */
    public boolean may(int a, int b) throws NoSuchElementException, IllegalArgumentException {
        needTwoGuilds(a, b);
        return court.allows(fair.now, a, b);
    }

    /** Whom a guild would mock behind one night. */
    public int tomorrow(int g) throws NoSuchElementException {
        needGuild(g);
        return court.answer(fair.now, g);
    }

    /** x (what 0) or y (1) of a step of the way. */
    public int step(int k, int what) throws NoSuchElementException, IllegalArgumentException {
        Carnival told = fair.now.carnival;
        if (k < 0 || k >= told.steps()) {
            throw new NoSuchElementException("no such step");
        }
        if (what != 0 && what != 1) {
            throw new IllegalArgumentException("what");
        }
        return what == 0 ? told.xs[k] : told.ys[k];
    }

    // ---- deeds

    /** a mocks b: how many mockers b has then; below 0: less why it can't be. */
    public int mock(int a, int b) {
        int why = court.whyNot(fair.now, a, b);
        if (why != 0) {
            return -why;
        }
        fair.remember();
        fair.now.turn(a, b);
        return Integer.bitCount(fair.now.mockers[b]);
    }

    /** It mocks none: whom it mocked. */
    public int spare(int g) throws NoSuchElementException {
        needGuild(g);
        int was = fair.now.whom[g];
        fair.remember();
        fair.now.turn(g, NONE);
        return was;
    }

    /** Its rank is another one: what it was. */
    public int rank(int g, int n) throws NoSuchElementException, IllegalArgumentException {
        needGuild(g);
        needWithin(n, 0, MOST_RANK);
        int was = fair.now.ranks[g];
        fair.remember();
        fair.now.ranks[g] = n;
        return was;
    }

    /** n nights: how many guilds mock otherwise than ahead of these. */
    public int nights(int n) throws IllegalArgumentException {
        needWithin(n, 1, NIGHTS_A_CALL);
        fair.remember();
        trial.copyFrom(fair.now);
        for (int i = 0; i < n; i++) {
            court.passNight(fair.now);
        }
        int otherwise = 0;
        for (int g = 0; g < MOST_GUILDS; g++) {
            if (trial.whom[g] != fair.now.whom[g]) {
                otherwise++;
            }
        }
        return otherwise;
    }

    /** n deeds are undone: how many still can be. */
    public int undo(int n) throws IllegalArgumentException {
        needWithin(n, 1, fair.deeds);
        fair.takeBack(n);
        return fair.deeds;
    }

    /** Told deeds, judged as if done: the first that can't be, why, who mocks then, cakes then. */
    public int judge(int tray, int what) throws NoSuchElementException, IllegalStateException, IllegalArgumentException {
        Tray told = needTray(tray);
        needWithin(what, 0, 3);
        trial.copyFrom(fair.now);
        int why = 0;
        int done = 0;
        while (done < told.many) {
            long deed = told.numberAt(done);
            why = court.whyNotTold(trial, deed);
            if (why != 0) {
                break;
            }
            court.enact(trial, deed);
            done++;
        }
        if (what == 0) {
            return why == 0 ? NONE : done;
        }
        if (what == 1) {
            return why;
        }
        return what == 2 ? trial.mocking() : row.build(trial).cakeCount;
    }

    /** Told deeds are done, till one can't be: how many were. */
    public int perform(int tray) throws NoSuchElementException, IllegalStateException {
        Tray told = needTray(tray);
        int done = 0;
        while (done < told.many && tryDeed(told.numberAt(done))) {
            done++;
        }
        return done;
    }

    /** A week by a seed: how many of its deeds could be. */
    public int week(int seed, int times) throws IllegalArgumentException, IllegalStateException {
        needWithin(times, 1, 30);
        int guilds = fair.now.carnival.guilds;
        if (guilds <= 0) {
            throw new IllegalStateException("no guilds");
        }
        int x = seed;
        int done = 0;
        for (int i = 0; i < times; i++) {
            x = drawn(x);
            int sort = (x >>> 16) % 3;
            long deed = NONE;
            if (sort != 0) {
                x = drawn(x);
                deed = 100L * ((x >>> 16) % guilds) + NOBODY;
            }
            if (sort == 1) {
                x = drawn(x);
                deed = deed - NOBODY + (x >>> 16) % guilds;
            }
            if (tryDeed(deed)) {
                done++;
            }
        }
        return done;
    }

    private static int drawn(int x) {
        return 1103515245 * x + 12345;
    }

    private boolean tryDeed(long deed) {
        if (court.whyNotTold(fair.now, deed) != 0) {
            return false;
        }
        fair.remember();
        court.enact(fair.now, deed);
        return true;
    }

    // ---- rings, the row

    /** Guilds in rings, as bits. */
    public int ringed() {
        Row walking = rowNow();
        int bits = 0;
        for (int g = 0; g < walking.guilds; g++) {
            bits |= walking.ring[g];
        }
        return bits;
    }

    /** How many rings; shut: shut ones alone. */
    public int rings(boolean shut) {
        Row walking = rowNow();
        int found = 0;
        for (int g = 0; g < walking.guilds; g++) {
            int ring = walking.ring[g];
            if (leastOf(ring) == g && (!shut || walking.opening(fair.now, ring) == NONE)) {
                found++;
            }
        }
        return found;
    }

    /** Cakes in the row. */
    public int cakes() {
        return rowNow().cakeCount;
    }

    /** Chains in the row. */
    public int chains() {
        return rowNow().chainCount;
    }

    /** Who walks as the k-th in the row: the guild, or 100 and the guild a cake is of. */
    public int walks(int k) throws IllegalArgumentException {
        if (k < 0) {
            throw new IllegalArgumentException("k");
        }
        Row walking = rowNow();
        return k < walking.size ? walking.order[k] : NONE;
    }

    /** As how many-th a guild walks. */
    public int place(int g) throws NoSuchElementException {
        needGuild(g);
        return rowNow().place[g];
    }

    /** Length of the row. */
    public int length() {
        return rowNow().lengthInAll;
    }

    /** The fewest to persuade so that all walk in one chain: how many (what 0), which (1). */
    public int persuaded(int what) throws IllegalArgumentException {
        needWithin(what, 0, 1);
        int set = rowNow().fewestPersuaded(fair.now);
        return what == 0 ? Integer.bitCount(set) : set;
    }

    /** The fewest who mock none instead so that there are no rings: how many (what 0), which (1). */
    public int peace(int what) throws IllegalArgumentException {
        needWithin(what, 0, 1);
        Row walking = rowNow();
        int set = 0;
        for (int g = 0; g < walking.guilds; g++) {
            if (leastOf(walking.ring[g]) == g) {
                set |= 1 << g;
            }
        }
        return what == 0 ? Integer.bitCount(set) : set;
    }

    /** The guild with most mockers, the first. */
    public int goat() {
        Standing now = fair.now;
        int goat = NONE;
        int most = 0;
        for (int g = 0; g < now.carnival.guilds; g++) {
            int mockers = Integer.bitCount(now.mockers[g]);
            if (mockers > most) {
                most = mockers;
                goat = g;
            }
        }
        return goat;
    }

    /** How many others one mocks in turn. */
    public int below(int g) throws NoSuchElementException {
        needGuild(g);
        int bits = 0;
        int h = g;
        for (int i = 0; i < MOST_GUILDS && isOne(h); i++) {
            h = fair.now.whom[h];
            if (isOne(h)) {
                bits |= 1 << h;
            }
        }
        return Integer.bitCount(bits & ~(1 << g));
    }

    /** Cakes of a guild in the row. */
    public int cakesOf(int g) throws NoSuchElementException {
        needGuild(g);
        int mockers = Integer.bitCount(fair.now.mockers[g]);
        return rowNow().behind[g] == NONE ? mockers : mockers - 1;
    }

    /** How many guilds are in the chain of a guild. */
    public int chainOf(int g) throws NoSuchElementException {
        needGuild(g);
        return rowNow().chain[g];
    }

    /** How many guilds the longest chain has. */
    public int longest() {
        Row walking = rowNow();
        int most = 0;
        for (int g = 0; g < walking.guilds; g++) {
            most = Math.max(most, walking.chain[g]);
        }
        return most;
    }

    /** Guilds that one may mock so that the row would have no more cakes than now. */
    public int freeFor(int g) throws NoSuchElementException {
        needGuild(g);
        int cakesNow = rowNow().cakeCount;
        int free = 0;
        for (int h = 0; h < fair.now.carnival.guilds; h++) {
            if (h != g && court.allows(fair.now, g, h)) {
                trial.copyFrom(fair.now);
                trial.turn(g, h);
                if (row.build(trial).cakeCount <= cakesNow) {
                    free |= 1 << h;
                }
            }
        }
        return free;
    }

    // ---- on the way

    /** The step of a guild's head at a minute. */
    public int at(int g, int minute) throws NoSuchElementException, IllegalArgumentException {
        needGuild(g);
        if (minute < 0) {
            throw new IllegalArgumentException("minute");
        }
        return rowNow().stepAt(fair.now.carnival, g, minute);
    }

    /** The minute from which on a guild is behind the last step. */
    public int arrives(int g) throws NoSuchElementException {
        needGuild(g);
        return rowNow().ahead[g] + fair.now.carnival.steps();
    }

    /** The first minute of meeting of two guilds. */
    public int meets(int g, int h) throws NoSuchElementException, IllegalArgumentException {
        needTwoGuilds(g, h);
        Carnival told = fair.now.carnival;
        Row walking = rowNow();
        int end = walking.lengthInAll + told.steps();
        for (int minute = 0; minute < end; minute++) {
            if (walking.meeting(told, g, h, minute)) {
                return minute;
            }
        }
        return NONE;
    }

    /** How many minutes have a meeting of some two guilds. */
    public int bows() {
        Carnival told = fair.now.carnival;
        Row walking = rowNow();
        int end = walking.lengthInAll + told.steps();
        int minutes = 0;
        for (int minute = 0; minute < end; minute++) {
            if (walking.anyMeeting(told, minute)) {
                minutes++;
            }
        }
        return minutes;
    }

    /** Guilds melted by rain from a minute on for n minutes, as bits. */
    public int melted(int minute, int n) throws IllegalArgumentException {
        needWithin(minute, 0, MOST_RAIN);
        needWithin(n, 0, MOST_RAIN);
        Carnival told = fair.now.carnival;
        Row walking = rowNow();
        int bits = 0;
        for (int g = 0; g < told.guilds; g++) {
            int from = Math.max(minute, walking.ahead[g]);
            int till = Math.min(minute + n, walking.ahead[g] + told.steps());
            int melts = told.melts[g];
            if (melts > 0 && till - from >= melts) {
                bits |= 1 << g;
            }
        }
        return bits;
    }

    /** Noise of the row. */
    public int noise() {
        Carnival told = fair.now.carnival;
        Row walking = rowNow();
        int noise = 0;
        // Who begins a chain walks just behind no guild, whatever chain stands ahead of it.
        for (int g = 0; g < walking.guilds; g++) {
            noise += told.noiseOf(g, walking.behind[g]);
        }
        return noise;
    }

    /** The quietest order of a set: its noise (what 0), its k-th guild (10 + k). */
    public int quietest(int set, int what) throws IllegalArgumentException {
        Carnival told = fair.now.carnival;
        if (set < 0 || set >= 1 << told.guilds || Integer.bitCount(set) > MOST_QUIET) {
            throw new IllegalArgumentException("set");
        }
        if (what != 0 && (what < 10 || what > 17)) {
            throw new IllegalArgumentException("what");
        }
        quiet.arrange(told, set);
        return what == 0 ? quiet.least : quiet.walksAt(what - 10);
    }

    // ---- nights

    /** When who mocks whom comes back: after how many nights (what 0), how many lie between (1). */
    public int comesBack(int what) throws IllegalArgumentException {
        needWithin(what, 0, 1);
        trial.copyFrom(fair.now);
        nightsGone[0] = trial.packed();
        for (int night = 1; night <= FAR_NIGHTS; night++) {
            court.passNight(trial);
            long standing = trial.packed();
            for (int then = 0; then < night; then++) {
                if (nightsGone[then] == standing) {
                    return what == 0 ? then : night - then;
                }
            }
            nightsGone[night] = standing;
        }
        return NONE;
    }

    /** Whom a guild mocks in n nights. */
    public int mocksIn(int g, int n) throws NoSuchElementException, IllegalArgumentException {
        needGuild(g);
        needWithin(n, 0, FAR_NIGHTS);
        trial.copyFrom(fair.now);
        boolean moving = true;
        for (int night = 0; night < n && moving; night++) {
            moving = court.passNight(trial);
        }
        return trial.whom[g];
    }

    /** The fewest nights from now by which it is as a tray says. */
    public int seen(int tray) throws NoSuchElementException, IllegalStateException, IllegalArgumentException {
        Tray told = needTray(tray);
        needSight(told);
        trial.copyFrom(fair.now);
        boolean moving = true;
        for (int night = 0; night <= NEAR_NIGHTS && moving; night++) {
            if (looksSo(told)) {
                return night;
            }
            moving = court.passNight(trial);
        }
        return NONE;
    }

    private void needSight(Tray told) {
        int guilds = fair.now.carnival.guilds;
        if (told.many != guilds) {
            throw new IllegalArgumentException("not as many as guilds");
        }
        for (int g = 0; g < guilds; g++) {
            long seen = told.numberAt(g);
            if (seen != NOBODY && (seen < NONE || seen >= guilds)) {
                throw new IllegalArgumentException("no such guild");
            }
        }
    }

    private boolean looksSo(Tray told) {
        for (int g = 0; g < told.many && g < MOST_GUILDS; g++) {
            long seen = told.numberAt(g);
            long mocked = trial.whom[g] == NONE ? NOBODY : trial.whom[g];
            if (seen != NONE && seen != mocked) {
                return false;
            }
        }
        return true;
    }

    /** Guilds who ever mock a guild in nights 0 to n from now, as bits. */
    public int ever(int g, int n) throws NoSuchElementException, IllegalArgumentException {
        needGuild(g);
        needWithin(n, 0, FAR_NIGHTS);
        trial.copyFrom(fair.now);
        int bits = trial.mockers[g];
        boolean moving = true;
        for (int night = 0; night < n && moving; night++) {
            moving = court.passNight(trial);
            bits |= trial.mockers[g];
        }
        return bits;
    }

    /** The fewest cakes of nights 0 to n from now: how many (what 0), the first such night (1). */
    public int fewest(int n, int what) throws IllegalArgumentException {
        needWithin(n, 0, NEAR_NIGHTS);
        needWithin(what, 0, 1);
        trial.copyFrom(fair.now);
        int least = row.build(trial).cakeCount;
        int first = 0;
        boolean moving = true;
        for (int night = 1; night <= n && moving; night++) {
            moving = court.passNight(trial);
            int many = row.build(trial).cakeCount;
            if (many < least) {
                least = many;
                first = night;
            }
        }
        return what == 0 ? least : first;
    }

    // ---- trays, images

    /** A tray is a row of so many 0s. */
    public void tray(int tray, int sort, int many) throws NoSuchElementException, IllegalArgumentException {
        if (tray < 0 || tray >= TRAYS) {
            throw new NoSuchElementException("no such tray");
        }
        needWithin(sort, 0, 3);
        needWithin(many, 0, MOST_ON_TRAY);
        Tray laid = trays[tray];
        if (laid == null) {
            laid = new Tray();
            trays[tray] = laid;
        }
        laid.lay(sort, many);
    }

    /** A number comes to a place of a tray, cut to its sort: as it is there. */
    public long write(int tray, int place, long v)
            throws NoSuchElementException, IllegalStateException, IndexOutOfBoundsException {
        Tray laid = needTray(tray);
        if (place < 0 || place >= laid.many) {
            throw new IndexOutOfBoundsException("no such place");
        }
        return laid.put(place, v);
    }

    /** Whom guilds mock comes into a tray: how many. */
    public int copy(int tray) throws NoSuchElementException, IllegalStateException {
        Tray laid = needTray(tray);
        Standing now = fair.now;
        int many = Math.min(laid.many, now.carnival.guilds);
        for (int g = 0; g < many; g++) {
            laid.put(g, now.whom[g] == NONE ? NOBODY : now.whom[g]);
        }
        return many;
    }

    /** An image is made. */
    public void image(int i) throws NoSuchElementException {
        needImage(i);
        Fair made = images[i];
        if (made == null) {
            made = new Fair(fair.now.carnival);
            images[i] = made;
        }
        made.copyFrom(fair);
    }

    /** All is as in an image. */
    public void restore(int i) throws NoSuchElementException, IllegalStateException {
        needImage(i);
        Fair made = images[i];
        if (made == null) {
            throw new IllegalStateException("none was made");
        }
        fair.copyFrom(made);
    }

    /** Lines, guilds, streets, steps, nights, guilds that mock, deeds, bytes on the tape, laws. */
    public int count(int what) {
        Standing now = fair.now;
        Carnival told = now.carnival;
        switch (what) {
            case 0:
                return told.lines;
            case 1:
                return told.guilds;
            case 2:
                return told.streets;
            case 3:
                return told.steps();
            case 4:
                return now.nights;
            case 5:
                return now.mocking();
            case 6:
                return fair.deeds;
            case 7:
                return fed;
            case 8:
                return told.may == null ? 0 : 1;
            case 9:
                return told.answers == null ? 0 : 1;
            default:
                return NONE;
        }
    }

    // ---- what several calls need

    private void needGuild(int g) {
        if (g < 0 || g >= fair.now.carnival.guilds) {
            throw new NoSuchElementException("no such guild");
        }
    }

    private void needTwoGuilds(int a, int b) {
        needGuild(a);
        needGuild(b);
        if (a == b) {
            throw new IllegalArgumentException("both one");
        }
    }

    private static void needWithin(int n, int least, int most) {
        if (n < least || n > most) {
            throw new IllegalArgumentException("out of its bounds");
        }
    }

    private Tray needTray(int tray) {
        if (tray < 0 || tray >= TRAYS) {
            throw new NoSuchElementException("no such tray");
        }
        Tray laid = trays[tray];
        if (laid == null) {
            throw new IllegalStateException("the tray is missing");
        }
        return laid;
    }

    private static void needImage(int i) {
        if (i < 0 || i >= IMAGES) {
            throw new NoSuchElementException("no such image");
        }
    }

    private Row rowNow() {
        return row.build(fair.now);
    }

    private static boolean isOne(int g) {
        return g >= 0 && g < MOST_GUILDS;
    }

    private static int leastOf(int bits) {
        for (int g = 0; g < MOST_GUILDS; g++) {
            if ((bits & 1 << g) != 0) {
                return g;
            }
        }
        return NONE;
    }

    /** The tokens of a text, one after the other, and the first fault found in it. */
    private static final class Tokens {
        private byte[] text = new byte[0];
        private int end;
        private int next;
        private int start;
        private int kind;
        private int value;
        private int faultKind;
        private int faultPlace = NONE;

        void begin(byte[] bytes, int many) {
            text = bytes;
            end = Math.min(many, bytes.length);
            next = 0;
            faultKind = 0;
            faultPlace = NONE;
        }

        void move() {
            while (next < end && (text[next] == 10 || text[next] == 32)) {
                next++;
            }
            start = next;
            if (next >= end) {
                kind = END;
            } else if (isLetter(text[next])) {
                moveOverWord();
            } else if (isDigit(text[next])) {
                moveOverNumber();
            } else {
                int place = text[next] > 0 ? SIGNS.indexOf((char) text[next]) : -1;
                kind = place < 0 ? BAD : SEMICOLON + place;
                next++;
            }
        }

        private void moveOverWord() {
            while (next < end && isLetter(text[next])) {
                next++;
            }
            kind = OTHER_WORD;
            int word = 0;
            int from = 0;
            for (int i = 0; i < WORDS.length(); i++) {
                if (WORDS.charAt(i) == ' ') {
                    if (isWord(from, i)) {
                        kind = word;
                        return;
                    }
                    word++;
                    from = i + 1;
                }
            }
        }

        private boolean isWord(int from, int till) {
            if (till - from != next - start) {
                return false;
            }
            for (int i = 0; i < till - from; i++) {
                if (text[start + i] != WORDS.charAt(from + i)) {
                    return false;
                }
            }
            return true;
        }

        private void moveOverNumber() {
            value = 0;
            while (next < end && isDigit(text[next])) {
                if (next - start < 3) {
                    value = value * 10 + text[next] - '0';
                }
                next++;
            }
            kind = next - start > 3 ? BAD : NUMBER;
        }

        private static boolean isLetter(int sign) {
            return sign >= 'a' && sign <= 'z';
        }

        private static boolean isDigit(int sign) {
            return sign >= '0' && sign <= '9';
        }

        /** Always false, so that a reader can answer with it. */
        boolean refuse(int why) {
            faultKind = kind == BAD ? NO_TOKEN : why;
            faultPlace = start;
            return false;
        }

        boolean isSemicolon() {
            return kind == SEMICOLON || refuse(CANT_STAND);
        }

        boolean isNumber(int least, int most) {
            if (kind != NUMBER) {
                return refuse(CANT_STAND);
            }
            return value >= least && value <= most || refuse(OUT_OF_BOUNDS);
        }
    }

    /** Reads a law into code in which each operation comes behind what it works on. */
    private static final class LawReader {
        private static final int WANTS_UNIT = 0;
        private static final int WANTS_ATOM = 1;
        private static final int BEHIND_ATOM = 2;
        private static final int BEHIND_SQUARE = 3;

        private final int[] code = new int[MOST_BYTES];
        private int size;
        // At most one operation of each strength waits at each depth.
        private final int[] waiting = new int[64];
        private int waits;
        private int state;
        private int deep;
        private int rounds;
        private int squares;
        private boolean compared;

        /** The code of the law behind the token that begins it, up to its semicolon; null with a fault. */
        int[] read(Tokens tokens) {
            size = 0;
            waits = 0;
            state = WANTS_UNIT;
            deep = 0;
            rounds = 0;
            squares = 0;
            compared = false;
            for (int i = 0; i <= MOST_BYTES; i++) {
                tokens.move();
                if (tokens.kind == SEMICOLON && unitEnds() && squares == 0) {
                    unwind(1);
                    return Arrays.copyOf(code, size);
                }
                int why = wantsMore() ? takeBeginning(tokens) : takeJoint(tokens.kind);
                if (why != 0) {
                    tokens.refuse(why);
                    return null;
                }
            }
            tokens.refuse(CANT_STAND);
            return null;
        }

        private boolean wantsMore() {
            return state == WANTS_UNIT || state == WANTS_ATOM;
        }

        private boolean unitEnds() {
            return !wantsMore() && rounds == 0 && compared;
        }

        private int takeBeginning(Tokens tokens) {
            int kind = tokens.kind;
            if (kind == NUMBER || kind >= RA && kind <= NIGHT) {
                emit(kind == NUMBER ? tokens.value : CODE + kind);
                state = BEHIND_ATOM;
                return 0;
            }
            boolean unitBegins = state == WANTS_UNIT && (kind == NOT || kind == SQUARE_OPEN);
            if (!unitBegins && kind != ROUND_OPEN) {
                return CANT_STAND;
            }
            if (deep == MOST_DEEP) {
                return TOO_MANY;
            }
            deep++;
            push(kind);
            if (kind == SQUARE_OPEN) {
                squares++;
            }
            if (kind == ROUND_OPEN) {
                rounds++;
                state = WANTS_ATOM;
            }
            return 0;
        }

        private int takeJoint(int kind) {
            if (!canJoin(kind)) {
                return CANT_STAND;
            }
            unwind(strength(kind));
            if (kind == ROUND_SHUT || kind == SQUARE_SHUT) {
                takeShut(kind);
                return 0;
            }
            push(kind);
            if (kind == AND || kind == OR) {
                compared = false;
                state = WANTS_UNIT;
                return 0;
            }
            if (kind == EQUAL || kind == LESS || kind == MORE) {
                compared = true;
            }
            state = WANTS_ATOM;
            return 0;
        }

        private boolean canJoin(int kind) {
            switch (kind) {
                case PLUS:
                case MINUS:
                case TIMES:
                    return state == BEHIND_ATOM;
                case EQUAL:
                case LESS:
                case MORE:
                    return rounds == 0 && !compared;
                case AND:
                case OR:
                    return unitEnds();
                case ROUND_SHUT:
                    return rounds > 0;
                case SQUARE_SHUT:
                    return unitEnds() && squares > 0;
                default:
                    return false;
            }
        }

        private void takeShut(int kind) {
            if (waits > 0) {
                waits--;
                deep--;
            }
            if (kind == ROUND_SHUT) {
                rounds--;
            } else {
                squares--;
                state = BEHIND_SQUARE;
            }
        }

        private void unwind(int least) {
            while (waits > 0 && strength(waiting[waits - 1]) >= least) {
                waits--;
                emit(CODE + waiting[waits]);
                if (waiting[waits] == NOT) {
                    deep--;
                }
            }
        }

        /** What opens has none, so that it waits till what shuts takes it away. */
        private static int strength(int kind) {
            switch (kind) {
                case OR:
                case ROUND_SHUT:
                case SQUARE_SHUT:
                    return 1;
                case AND:
                    return 2;
                case NOT:
                    return 3;
                case EQUAL:
                case LESS:
                case MORE:
                    return 4;
                case PLUS:
                case MINUS:
                    return 5;
                case TIMES:
                    return 6;
                default:
                    return 0;
            }
        }

        private void emit(int part) {
            if (size < code.length) {
                code[size] = part;
                size++;
            }
        }

        private void push(int kind) {
            if (waits < waiting.length) {
                waiting[waits] = kind;
                waits++;
            }
        }
    }

    /** Reads a text of a carnival. */
    private static final class Reader {
        private final Tokens tokens = new Tokens();
        private final LawReader laws = new LawReader();
        private final int[] flags = new int[FLAGS * MOST_GUILDS];
        private final int[] whom = new int[MOST_GUILDS];
        private final int[] turns = new int[MOST_STREETS];
        private final int[] paces = new int[MOST_STREETS];
        private int lines;
        private int guilds;
        private int streets;
        private int[] may;
        private int[] answers;

        int faultKind() {
            return tokens.faultKind;
        }

        int faultPlace() {
            return tokens.faultPlace;
        }

        /** null, if there is a fault. */
        Carnival read(byte[] text, int many) {
            tokens.begin(text, many);
            lines = 0;
            guilds = 0;
            streets = 0;
            may = null;
            answers = null;
            for (int i = 0; i <= MOST_BYTES; i++) {
                tokens.move();
                if (tokens.kind == END) {
                    return new Carnival(this);
                }
                if (!readLine()) {
                    return null;
                }
                lines++;
            }
            return null;
        }

        private boolean readLine() {
            switch (tokens.kind) {
                case GUILD:
                    return readGuild();
                case MOCKS:
                    return readMocks();
                case MAY:
                    may = laws.read(tokens);
                    return may != null;
                case ANSWERS:
                    answers = laws.read(tokens);
                    return answers != null;
                case STREET:
                    return readStreet();
                default:
                    return tokens.refuse(CANT_STAND);
            }
        }

        private boolean readGuild() {
            if (guilds >= MOST_GUILDS) {
                return tokens.refuse(TOO_MANY);
            }
            int g = guilds;
            guilds++;
            whom[g] = NONE;
            for (int flag = 0; flag < FLAGS; flag++) {
                flags[flag * MOST_GUILDS + g] = FLAG_FIRST[flag];
            }
            for (int i = 0; i <= MOST_BYTES; i++) {
                tokens.move();
                if (tokens.kind == SEMICOLON) {
                    return true;
                }
                if (tokens.kind < RANK || tokens.kind > MELTS) {
                    return tokens.refuse(CANT_STAND);
                }
                int flag = tokens.kind - RANK;
                tokens.move();
                if (!tokens.isNumber(FLAG_LEAST[flag], FLAG_MOST[flag])) {
                    return false;
                }
                flags[flag * MOST_GUILDS + g] = tokens.value;
            }
            return tokens.refuse(CANT_STAND);
        }

        private boolean readMocks() {
            tokens.move();
            if (!tokens.isNumber(0, guilds - 1)) {
                return false;
            }
            int a = tokens.value;
            tokens.move();
            if (!tokens.isNumber(0, guilds - 1)) {
                return false;
            }
            int b = tokens.value;
            if (a == b) {
                return tokens.refuse(OUT_OF_BOUNDS);
            }
            if (isOne(a)) {
                whom[a] = b;
            }
            tokens.move();
            return tokens.isSemicolon();
        }

        private boolean readStreet() {
            if (streets >= MOST_STREETS) {
                return tokens.refuse(TOO_MANY);
            }
            tokens.move();
            if (tokens.kind < NORTH || tokens.kind > WEST) {
                return tokens.refuse(CANT_STAND);
            }
            turns[streets] = tokens.kind - NORTH;
            tokens.move();
            if (!tokens.isNumber(1, MOST_PACES)) {
                return false;
            }
            paces[streets] = tokens.value;
            streets++;
            tokens.move();
            return tokens.isSemicolon();
        }
    }

    /** A carnival as it was told; it never changes, so images can share it. */
    private static final class Carnival {
        final int lines;
        final int guilds;
        final int streets;
        final int[] whom;
        final int[] may;
        final int[] answers;
        final boolean answersByNight;
        final int[] xs;
        final int[] ys;
        final int[] ranks;
        final int[] longs;
        final int[] louds;
        final int[] verses;
        final int[] melts;

        /** Without a text. */
        Carnival() {
            lines = 0;
            guilds = 0;
            streets = 0;
            whom = new int[MOST_GUILDS];
            ranks = new int[MOST_GUILDS];
            longs = new int[MOST_GUILDS];
            louds = new int[MOST_GUILDS];
            verses = new int[MOST_GUILDS];
            melts = new int[MOST_GUILDS];
            may = null;
            answers = null;
            answersByNight = false;
            xs = new int[1];
            ys = new int[1];
        }

        Carnival(Reader told) {
            lines = told.lines;
            guilds = told.guilds;
            streets = told.streets;
            whom = Arrays.copyOf(told.whom, MOST_GUILDS);
            ranks = flagOfAll(told, 0);
            longs = flagOfAll(told, 1);
            louds = flagOfAll(told, 2);
            verses = flagOfAll(told, 3);
            melts = flagOfAll(told, 4);
            may = told.may;
            answers = told.answers;
            answersByNight = tellsOfNight(told.answers);
            xs = wayOf(told, STEP_X);
            ys = wayOf(told, STEP_Y);
        }

        private static int[] flagOfAll(Reader told, int flag) {
            return Arrays.copyOfRange(told.flags, flag * MOST_GUILDS, (flag + 1) * MOST_GUILDS);
        }

        private static boolean tellsOfNight(int[] law) {
            if (law == null) {
                return false;
            }
            for (int i = 0; i < law.length; i++) {
                if (law[i] == CODE + NIGHT) {
                    return true;
                }
            }
            return false;
        }

        private static int[] wayOf(Reader told, int[] stepBy) {
            int last = 0;
            for (int i = 0; i < told.streets; i++) {
                last += told.paces[i];
            }
            int[] way = new int[last + 1];
            int at = 0;
            for (int i = 0; i < told.streets; i++) {
                int by = stepBy[told.turns[i]];
                for (int pace = 0; pace < told.paces[i] && at + 1 < way.length; pace++) {
                    way[at + 1] = way[at] + by;
                    at++;
                }
            }
            return way;
        }

        int steps() {
            return xs.length;
        }

        /** Of nobody there is none. */
        int noiseOf(int first, int second) {
            return isOne(first) && isOne(second) ? louds[first] * verses[second] : 0;
        }
    }

    /** Who mocks whom, ranks and nights gone by at one time. */
    private static final class Standing {
        Carnival carnival;
        final int[] whom = new int[MOST_GUILDS];
        final int[] mockers = new int[MOST_GUILDS];
        final int[] ranks = new int[MOST_GUILDS];
        int nights;

        Standing(Carnival told) {
            carnival = told;
            Arrays.fill(whom, NONE);
        }

        void open(Carnival told) {
            carnival = told;
            nights = 0;
            Arrays.fill(whom, NONE);
            Arrays.fill(mockers, 0);
            Arrays.fill(ranks, 0);
            for (int g = 0; g < told.guilds; g++) {
                ranks[g] = told.ranks[g];
                turn(g, told.whom[g]);
            }
        }

        void copyFrom(Standing other) {
            carnival = other.carnival;
            nights = other.nights;
            System.arraycopy(other.whom, 0, whom, 0, MOST_GUILDS);
            System.arraycopy(other.mockers, 0, mockers, 0, MOST_GUILDS);
            System.arraycopy(other.ranks, 0, ranks, 0, MOST_GUILDS);
        }

        void turn(int g, int h) {
            int was = whom[g];
            if (isOne(was)) {
                mockers[was] &= ~(1 << g);
            }
            whom[g] = h;
            if (isOne(h)) {
                mockers[h] |= 1 << g;
            }
        }

        int mocking() {
            int many = 0;
            for (int g = 0; g < MOST_GUILDS; g++) {
                if (whom[g] != NONE) {
                    many++;
                }
            }
            return many;
        }

        /** Who mocks whom as one number, so that many nights can be kept. */
        long packed() {
            long all = 0;
            for (int g = 0; g < MOST_GUILDS; g++) {
                all = all * 16 + whom[g] + 1;
            }
            return all;
        }
    }

    /** The standing now, and those ahead of the deeds that can be undone. */
    private static final class Fair {
        final Standing now;
        private final Standing[] past = new Standing[MOST_DEEDS];
        int deeds;

        Fair(Carnival told) {
            now = new Standing(told);
        }

        void open(Carnival told) {
            now.open(told);
            deeds = 0;
        }

        void remember() {
            if (deeds >= MOST_DEEDS) {
                forgetEldest();
            }
            keep(deeds, now);
            deeds++;
        }

        private void forgetEldest() {
            Standing eldest = past[0];
            for (int i = 1; i < MOST_DEEDS; i++) {
                past[i - 1] = past[i];
            }
            past[MOST_DEEDS - 1] = eldest;
            deeds = MOST_DEEDS - 1;
        }

        private void keep(int i, Standing standing) {
            if (i < 0 || i >= MOST_DEEDS || standing == null) {
                return;
            }
            Standing kept = past[i];
            if (kept == null) {
                kept = new Standing(standing.carnival);
                past[i] = kept;
            }
            kept.copyFrom(standing);
        }

        void takeBack(int n) {
            if (n < 1 || n > deeds) {
                return;
            }
            Standing then = past[deeds - n];
            if (then != null) {
                now.copyFrom(then);
            }
            deeds -= n;
        }

        void copyFrom(Fair other) {
            now.copyFrom(other.now);
            deeds = other.deeds;
            for (int i = 0; i < deeds && i < MOST_DEEDS; i++) {
                keep(i, other.past[i]);
            }
        }
    }

    /** Says what the laws say of a standing, lets nights go by and told deeds be done. */
    private static final class Court {
        private final int[] values = new int[64];
        private final int[] next = new int[MOST_GUILDS];

        boolean allows(Standing standing, int a, int b) {
            int[] law = standing.carnival.may;
            return law == null || holds(law, standing, a, b);
        }

        int answer(Standing standing, int a) {
            int[] law = standing.carnival.answers;
            int b = leastOf(standing.mockers[a]);
            boolean answers = law != null && b != NONE && holds(law, standing, a, b);
            return answers ? b : standing.whom[a];
        }

        /** Whether another night could still bring something else. */
        boolean passNight(Standing standing) {
            int guilds = standing.carnival.guilds;
            for (int a = 0; a < guilds; a++) {
                next[a] = answer(standing, a);
            }
            boolean moving = standing.carnival.answersByNight;
            for (int a = 0; a < guilds; a++) {
                if (next[a] != standing.whom[a]) {
                    standing.turn(a, next[a]);
                    moving = true;
                }
            }
            standing.nights++;
            return moving;
        }

        int whyNot(Standing standing, int a, int b) {
            int guilds = standing.carnival.guilds;
            if (a < 0 || a >= guilds || b < 0 || b >= guilds || a == b) {
                return NO_SUCH;
            }
            return allows(standing, a, b) ? 0 : MAY_NOT;
        }

        int whyNotTold(Standing standing, long deed) {
            if (deed == NONE) {
                return 0;
            }
            if (deed < 0 || deed >= 100L * standing.carnival.guilds) {
                return NO_SUCH;
            }
            int b = (int) (deed % 100);
            return b == NOBODY ? 0 : whyNot(standing, (int) (deed / 100), b);
        }

        void enact(Standing standing, long deed) {
            if (deed == NONE) {
                passNight(standing);
                return;
            }
            int a = (int) (deed / 100);
            int b = (int) (deed % 100);
            if (isOne(a)) {
                standing.turn(a, b == NOBODY ? NONE : b);
            }
        }

        private boolean holds(int[] law, Standing standing, int a, int b) {
            int top = 0;
            for (int i = 0; i < law.length; i++) {
                int part = law[i];
                int kind = part - CODE;
                if (part < CODE || kind >= RA && kind <= NIGHT) {
                    if (top >= values.length) {
                        return false;
                    }
                    values[top] = part < CODE ? part : atom(kind, standing, a, b);
                    top++;
                } else if (kind == NOT) {
                    if (top < 1) {
                        return false;
                    }
                    values[top - 1] = 1 - values[top - 1];
                } else {
                    if (top < 2) {
                        return false;
                    }
                    top--;
                    values[top - 1] = joined(kind, values[top - 1], values[top]);
                }
            }
            return top == 1 && values[0] != 0;
        }

        private static int atom(int kind, Standing standing, int a, int b) {
            switch (kind) {
                case RA:
                    return standing.ranks[a];
                case RB:
                    return standing.ranks[b];
                case LA:
                    return standing.carnival.longs[a];
                case LB:
                    return standing.carnival.longs[b];
                case MA:
                    return Integer.bitCount(standing.mockers[a]);
                case MB:
                    return Integer.bitCount(standing.mockers[b]);
                case MUTUAL:
                    return standing.whom[b] == a ? 1 : 0;
                default:
                    return standing.nights % 1000;
            }
        }

        private static int joined(int kind, int left, int right) {
            long number;
            switch (kind) {
                case PLUS:
                    number = (long) left + right;
                    break;
                case MINUS:
                    number = (long) left - right;
                    break;
                case TIMES:
                    number = (long) left * right;
                    break;
                case EQUAL:
                    return left == right ? 1 : 0;
                case LESS:
                    return left < right ? 1 : 0;
                case MORE:
                    return left > right ? 1 : 0;
                case AND:
                    return left & right;
                default:
                    return left | right;
            }
            if (number > KEPT_WITHIN) {
                return KEPT_WITHIN;
            }
            return number < -KEPT_WITHIN ? -KEPT_WITHIN : (int) number;
        }
    }

    /** The row in which guilds and cakes walk. */
    private static final class Row {
        private int guilds;
        private int size;
        private int lengthInAll;
        private int cakeCount;
        private int chainCount;
        private final int[] order = new int[MOST_IN_ROW];
        private final int[] ring = new int[MOST_GUILDS];
        private final int[] behind = new int[MOST_GUILDS];
        private final int[] place = new int[MOST_GUILDS];
        private final int[] ahead = new int[MOST_GUILDS];
        private final int[] chain = new int[MOST_GUILDS];

        Row build(Standing standing) {
            guilds = standing.carnival.guilds;
            size = 0;
            lengthInAll = 0;
            cakeCount = 0;
            chainCount = 0;
            for (int g = 0; g < guilds; g++) {
                ring[g] = ringOf(standing, g);
            }
            for (int g = 0; g < guilds; g++) {
                behind[g] = whoIsBehind(standing, g);
            }
            for (int g = 0; g < guilds; g++) {
                int mocked = standing.whom[g];
                if (!isOne(mocked) || behind[mocked] != g) {
                    lineUp(standing, g);
                }
            }
            return this;
        }

        private static int ringOf(Standing standing, int g) {
            int bits = 0;
            int h = g;
            for (int i = 0; i < MOST_GUILDS && isOne(h); i++) {
                bits |= 1 << h;
                h = standing.whom[h];
                if (h == g) {
                    return bits;
                }
            }
            return 0;
        }

        /** The least guild of a ring that has mockers not in it; NONE: it is shut. */
        int opening(Standing standing, int bits) {
            for (int g = 0; g < guilds; g++) {
                if ((bits & 1 << g) != 0 && (standing.mockers[g] & ~bits) != 0) {
                    return g;
                }
            }
            return NONE;
        }

        private int whoIsBehind(Standing standing, int g) {
            int mockers = standing.mockers[g];
            int bits = ring[g];
            if (bits == 0) {
                return leastOf(mockers);
            }
            int opens = opening(standing, bits);
            if (opens == NONE) {
                return g == leastOf(bits) ? NONE : leastOf(mockers);
            }
            return leastOf(g == opens ? mockers & ~bits : mockers & bits);
        }

        private void lineUp(Standing standing, int leader) {
            chainCount++;
            if (standing.whom[leader] != NONE) {
                put(CAKE + standing.whom[leader]);
                cakeCount++;
                lengthInAll++;
            }
            int members = 0;
            int g = leader;
            for (int i = 0; i < guilds && isOne(g); i++) {
                members |= 1 << g;
                place[g] = size;
                ahead[g] = lengthInAll;
                put(g);
                lengthInAll += standing.carnival.longs[g];
                g = behind[g];
            }
            for (int h = 0; h < guilds; h++) {
                if ((members & 1 << h) != 0) {
                    chain[h] = Integer.bitCount(members);
                }
            }
        }

        private void put(int who) {
            if (size < order.length) {
                order[size] = who;
                size++;
            }
        }

        /** Who is kept in mocking as it does must walk so already: no two behind one, no ring, one in front. */
        int fewestPersuaded(Standing standing) {
            int fewest = MOST_GUILDS + 1;
            int best = 0;
            for (int set = 0; set < 1 << guilds; set++) {
                int many = Integer.bitCount(set);
                if (many < fewest && isEnough(standing, set)) {
                    fewest = many;
                    best = set;
                }
            }
            return best;
        }

        private boolean isEnough(Standing standing, int persuaded) {
            boolean led = false;
            for (int g = 0; g < guilds; g++) {
                if (Integer.bitCount(standing.mockers[g] & ~persuaded) > 1) {
                    return false;
                }
                if (ring[g] != 0 && (ring[g] & persuaded) == 0) {
                    return false;
                }
                if (standing.whom[g] == NONE && (persuaded & 1 << g) == 0) {
                    if (led) {
                        return false;
                    }
                    led = true;
                }
            }
            return true;
        }

        int stepAt(Carnival told, int g, int minute) {
            int step = minute - ahead[g];
            return step >= 0 && step < told.steps() ? step : NONE;
        }

        boolean meeting(Carnival told, int g, int h, int minute) {
            int i = stepAt(told, g, minute);
            int j = stepAt(told, h, minute);
            if (i == NONE || j == NONE || Math.abs(i - j) < APART) {
                return false;
            }
            return Math.abs(told.xs[i] - told.xs[j]) + Math.abs(told.ys[i] - told.ys[j]) <= 1;
        }

        boolean anyMeeting(Carnival told, int minute) {
            for (int g = 0; g < guilds; g++) {
                for (int h = 0; h < g; h++) {
                    if (meeting(told, g, h, minute)) {
                        return true;
                    }
                }
            }
            return false;
        }
    }

    /** The quietest order of some guilds. */
    private static final class Quiet {
        private final int[] members = new int[MOST_QUIET];
        private final int[] order = new int[MOST_QUIET];
        // By who walks already, as bits, and who of them is last: the least noise of the others behind.
        private final int[] rest = new int[(1 << MOST_QUIET) * MOST_QUIET];
        private int many;
        private int least;

        void arrange(Carnival told, int set) {
            many = 0;
            for (int g = 0; g < told.guilds; g++) {
                if ((set & 1 << g) != 0 && many < MOST_QUIET) {
                    members[many] = g;
                    many++;
                }
            }
            for (int walking = (1 << many) - 1; walking > 0; walking--) {
                for (int last = 0; last < many; last++) {
                    if ((walking & 1 << last) != 0) {
                        int follower = bestBehind(told, walking, last);
                        rest[walking * MOST_QUIET + last] = follower == NONE ? 0 : with(told, walking, last, follower);
                    }
                }
            }
            follow(told);
        }

        private int bestBehind(Carnival told, int walking, int last) {
            int best = NONE;
            for (int i = 0; i < many; i++) {
                boolean isLeft = (walking & 1 << i) == 0;
                if (isLeft && (best == NONE || with(told, walking, last, i) < with(told, walking, last, best))) {
                    best = i;
                }
            }
            return best;
        }

        /** The noise of one behind the last, and of all behind that one; nobody is ahead of the first. */
        private int with(Carnival told, int walking, int last, int follower) {
            int behind = rest[(walking | 1 << follower) * MOST_QUIET + follower];
            return last == NONE ? behind : behind + told.noiseOf(members[last], members[follower]);
        }

        private void follow(Carnival told) {
            int walking = 0;
            int last = NONE;
            least = 0;
            for (int k = 0; k < many; k++) {
                int best = bestBehind(told, walking, last);
                if (best == NONE) {
                    return;
                }
                if (k == 0) {
                    least = with(told, walking, last, best);
                }
                order[k] = members[best];
                walking |= 1 << best;
                last = best;
            }
        }

        int walksAt(int k) {
            return k >= 0 && k < many ? order[k] : NONE;
        }
    }

    /** A row of numbers of one sort. */
    private static final class Tray {
        private final long[] numbers = new long[MOST_ON_TRAY];
        private int sort;
        private int many;

        void lay(int newSort, int newMany) {
            sort = newSort;
            many = Math.max(0, Math.min(MOST_ON_TRAY, newMany));
            Arrays.fill(numbers, 0);
        }

        long put(int at, long v) {
            if (at < 0 || at >= many) {
                return 0;
            }
            numbers[at] = cut(v);
            return numbers[at];
        }

        long numberAt(int at) {
            return at >= 0 && at < many ? numbers[at] : 0;
        }

        private long cut(long v) {
            switch (sort) {
                case 0:
                    return (byte) v;
                case 1:
                    return (short) v;
                case 2:
                    return (int) v;
                default:
                    return v;
            }
        }
    }
}
