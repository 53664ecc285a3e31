import java.util.Arrays;

/** A hill of people who have hiccups from being mentioned; shared/DOC.md says what each call does. */
public final class HiccupHill {
    public static final int NONE = -1;

    private static final int NO_SUCH = -2;
    private static final int NO_NUMBER = -3;
    private static final int TOO_MANY = -4;
    private static final int NOT_NOW = -5;
    private static final int TRAY_MISSING = -6;
    private static final int NO_PLACE = -7;
    private static final int WHY_NOT = -10;
    private static final int FAULTY = -30;

    private static final int NOWHERE = 1;
    private static final int FULL = 2;

    private static final int TEXT_BYTES = 900;
    private static final int FEED_BYTES = 20;
    private static final int MOST_CELLS = 64;
    private static final int MOST_PEOPLE = 6;
    private static final int MOST_PAIRS = 36;
    private static final int MOST_NAMINGS = 8;
    /** Two more than can be kept: silence() asks of so many. */
    private static final int NAMING_PLACES = 10;
    private static final int MINUTES = 100;
    private static final int MOST_GAP = 20;
    private static final int MOST_DIGIT = 9;
    private static final int SURE = 10;
    private static final int WINDS = 10;
    /** A naming and the answers to it have at most a hiccup every second minute: ten by fifty. */
    private static final int MOST_HICCUPS = 512;
    private static final int SILENT_MINUTES = 20;
    private static final int MOST_UNDO = 10;
    private static final int TRAYS = 4;
    private static final int TRAY_PLACES = 40;
    private static final int IMAGES = 2;
    private static final int MOST_HEARD = 6;
    private static final int MOST_TIMED = 8;
    private static final int MOST_WEEK = 40;

    private static final int LAWS = 3;
    private static final int LAW_GAPS = 0;
    private static final int LAW_PITCH = 1;
    private static final int LAW_ANSWERS = 2;

    /** Words of eight places each, told by their number in this row; what a SUM may name is from "wind" to "minute". */
    private static final String WORDS = "hill    person  names   at      sure    gaps    pitch   answers if      then    else    end     and     or      not     wind    loud    deaf    voice   who     whom    far     gap     minute  ";
    private static final int WORD_PLACES = 8;
    private static final int W_HILL = 0;
    private static final int W_PERSON = 1;
    private static final int W_NAMES = 2;
    private static final int W_AT = 3;
    private static final int W_SURE = 4;
    private static final int W_GAPS = 5;
    private static final int W_PITCH = 6;
    private static final int W_ANSWERS = 7;
    private static final int W_IF = 8;
    private static final int W_THEN = 9;
    private static final int W_ELSE = 10;
    private static final int W_END = 11;
    private static final int W_AND = 12;
    private static final int W_OR = 13;
    private static final int W_NOT = 14;
    private static final int W_WIND = 15;
    private static final int W_LOUD = 16;
    private static final int W_DEAF = 17;
    private static final int W_VOICE = 18;
    private static final int W_FAR = 21;
    private static final int W_GAP = 22;
    private static final int W_MINUTE = 23;
    private static final int WORD_COUNT = 24;

    private static final String SIGNS = ";:+-*()[]=<>";
    private static final int S_FIRST = 30;
    private static final int S_SEMICOLON = 30;
    private static final int S_COLON = 31;
    private static final int S_PLUS = 32;
    private static final int S_MINUS = 33;
    private static final int S_TIMES = 34;
    private static final int S_OPEN = 35;
    private static final int S_CLOSE = 36;
    private static final int S_OPEN_SQUARE = 37;
    private static final int S_CLOSE_SQUARE = 38;
    private static final int S_EQUAL = 39;
    private static final int S_LESS = 40;
    private static final int S_MORE = 41;

    private static final int T_NUMBER = 50;
    private static final int T_STRANGE_WORD = 51;
    private static final int T_END = 52;
    private static final int T_BAD = 53;

    private static final int FAULT_BAD = 1;
    private static final int FAULT_PLACE = 2;
    private static final int FAULT_BOUNDS = 3;
    private static final int FAULT_MANY = 4;
    private static final int MOST_NESTED = 6;

    /** In a law's code what is less is the number itself. */
    private static final int CODE_TOKEN = 1000;
    private static final int NAMES = 9;
    private static final int KEPT = 1000000;
    /** Six nested parts leave at most 36 values open. */
    private static final int STACK = 64;

    private final byte[] tape = new byte[TEXT_BYTES];
    private int taped;
    private Hill now = new Hill();
    private Hill other = new Hill();
    private final Reader reader = new Reader();
    private final Hill[] images = new Hill[IMAGES];
    private final boolean[] imaged = new boolean[IMAGES];
    private final Past past = new Past();
    private final Tray[] trays = new Tray[TRAYS];
    private boolean known;
    private final Laws laws = new Laws();
    private final Day day = new Day();
    private final Odds odds = new Odds();
    private final Hush hush = new Hush();
    private final Plan trial = new Plan();
    private final Laws trialLaws = new Laws();
    private final Day trialDay = new Day();
    private final int[] found = new int[MOST_CELLS];
    private final int[] alike = new int[MOST_GAP + 1];
    private int drawn;

    public HiccupHill() {
        for (int i = 0; i < IMAGES; i++) {
            images[i] = new Hill();
        }
        for (int i = 0; i < TRAYS; i++) {
            trays[i] = new Tray();
        }
    }

    // ---- the hill

    public int feed(int a, int b, int c, int d, int e) {
        if (taped + FEED_BYTES > TEXT_BYTES) {
            return NOT_NOW;
        }
        tapeInt(a);
        tapeInt(b);
        tapeInt(c);
        tapeInt(d);
        tapeInt(e);
        return taped;
    }

    public int hill(int n) {
        if (n < 0 || n > taped) {
            return NO_NUMBER;
        }
        taped = 0;
        if (!reader.read(tape, n, other)) {
            return FAULTY - reader.fault;
        }
        Hill read = other;
        other = now;
        now = read;
        past.forget();
        forgetAnswers();
        return now.lines;
    }

    public int fault(int what) {
        if (what == 0) {
            return reader.fault;
        }
        return what == 1 ? reader.faultPlace : NONE;
    }

    public int person(int p, int what) {
        if (!isPerson(p)) {
            return NO_SUCH;
        }
        switch (what) {
            case 0: return now.plan.cell[p];
            case 1: return now.loud[p];
            case 2: return now.deaf[p];
            case 3: return now.voice[p];
            default: return NO_SUCH;
        }
    }

    public int naming(int k, int what) {
        Plan plan = now.plan;
        if (k < 0 || k >= plan.namings) {
            return NO_SUCH;
        }
        switch (what) {
            case 0: return plan.sayer[k];
            case 1: return plan.named[k];
            case 2: return plan.at[k];
            case 3: return plan.sure[k];
            case 4: know(); return day.said[k];
            default: return NO_SUCH;
        }
    }

    public int between(int who, int whom, int what) {
        if (!isPerson(who) || !isPerson(whom) || who == whom) {
            return NO_SUCH;
        }
        know();
        int pair = who * MOST_PEOPLE + whom;
        switch (what) {
            case 0: return laws.gap[pair];
            case 1: return laws.pitch[pair];
            case 2: return laws.far[pair];
            default: return NO_SUCH;
        }
    }

    // ---- deeds

    public int tell(int who, int whom, int minute) {
        trial.copyFrom(now.plan);
        int why = tellIn(trial, who, whom, minute);
        if (why != 0) {
            return WHY_NOT - why;
        }
        acceptTrial();
        return now.plan.namings;
    }

    public int drop(int k) {
        trial.copyFrom(now.plan);
        int why = dropIn(trial, k);
        if (why != 0) {
            return WHY_NOT - why;
        }
        acceptTrial();
        return now.plan.namings;
    }

    public int move(int p, int cell) {
        trial.copyFrom(now.plan);
        int why = moveIn(trial, p, cell);
        if (why != 0) {
            return WHY_NOT - why;
        }
        int was = now.plan.cell[p];
        acceptTrial();
        return was;
    }

    public int wind(int n) {
        trial.copyFrom(now.plan);
        int why = windIn(trial, n);
        if (why != 0) {
            return WHY_NOT - why;
        }
        int was = now.plan.wind;
        acceptTrial();
        return was;
    }

    public int undo(int n) {
        if (n < 1 || n > past.kept) {
            return NO_NUMBER;
        }
        past.takeBack(n, now.plan);
        forgetAnswers();
        return past.kept;
    }

    public int judge(int tray, int what) {
        if (!isTray(tray) || what < 0 || what > 3) {
            return NO_SUCH;
        }
        Tray deeds = trays[tray];
        if (!deeds.there) {
            return TRAY_MISSING;
        }
        int done = tryDeeds(deeds);
        boolean all = done >= deeds.size;
        if (what == 0) {
            return all ? NONE : done;
        }
        if (what == 1) {
            return all ? 0 : deed(trial, deeds.numbers[done]);
        }
        trialLaws.learn(now, trial);
        trialDay.run(trial, trialLaws, MINUTES - 1, NONE);
        return what == 2 ? trialDay.hiccups : trialDay.nobodies(now.people);
    }

    public int perform(int tray) {
        if (!isTray(tray)) {
            return NO_SUCH;
        }
        if (!trays[tray].there) {
            return TRAY_MISSING;
        }
        int done = tryDeeds(trays[tray]);
        if (done > 0) {
            acceptTrial();
        }
        return done;
    }

    public int week(int seed, int times) {
        if (times < 1 || times > MOST_WEEK) {
            return NO_NUMBER;
        }
        drawn = seed;
        trial.copyFrom(now.plan);
        int done = 0;
        for (int i = 0; i < times; i++) {
            if (deed(trial, drawDeed()) == 0) {
                done++;
            }
        }
        if (done > 0) {
            acceptTrial();
        }
        return done;
    }

    // ---- the day

    public int hiccups(int p) {
        if (p != NONE && !isPerson(p)) {
            return NO_SUCH;
        }
        know();
        return p == NONE ? day.hiccups : day.hiccupsOf[p];
    }

    public int hiccup(int k, int what) {
        if (what < 0 || what > 4) {
            return NO_SUCH;
        }
        if (k < 0) {
            return NO_NUMBER;
        }
        know();
        if (k >= day.hiccups) {
            return NONE;
        }
        int pair = day.hiccupPair[k];
        switch (what) {
            case 0: return pair % MOST_PEOPLE;
            case 1: return day.hiccupMinute[k];
            case 2: return pair / MOST_PEOPLE;
            case 3: return laws.pitch[pair];
            default: return laws.gap[pair];
        }
    }

    public int minute(int p, int i) {
        if (!isPerson(p)) {
            return NO_SUCH;
        }
        if (i < 0) {
            return NO_NUMBER;
        }
        know();
        int left = i;
        for (int k = 0; k < day.hiccups; k++) {
            if (day.hiccupPair[k] % MOST_PEOPLE == p) {
                if (left == 0) {
                    return day.hiccupMinute[k];
                }
                left--;
            }
        }
        return NONE;
    }

    public int crowd(int minute) {
        if (!isMinute(minute)) {
            return NO_NUMBER;
        }
        know();
        int crowd = 0;
        for (int k = 0; k < day.hiccups; k++) {
            if (day.hiccupMinute[k] == minute) {
                crowd++;
            }
        }
        return crowd;
    }

    public int worst() {
        know();
        int most = 0;
        int at = NONE;
        int from = 0;
        // Hiccups stand by their minutes, so those of one minute are a row of neighbours.
        for (int k = 0; k < day.hiccups; k++) {
            if (day.hiccupMinute[k] != day.hiccupMinute[from]) {
                from = k;
            }
            if (k - from >= most) {
                most = k - from + 1;
                at = day.hiccupMinute[k];
            }
        }
        return at;
    }

    public int answers(int p) {
        if (!isPerson(p)) {
            return NO_SUCH;
        }
        know();
        return day.answersBy[p];
    }

    public int nobody() {
        know();
        return day.nobodies(now.people);
    }

    public int who(int p, int gap, int pitch) {
        if (!isPerson(p)) {
            return NO_SUCH;
        }
        if (!isGap(gap) || pitch < 0 || pitch > MOST_DIGIT) {
            return NO_NUMBER;
        }
        know();
        int bits = 0;
        for (int q = 0; q < now.people; q++) {
            int pair = q * MOST_PEOPLE + p;
            if (q != p && laws.gap[pair] == gap && laws.pitch[pair] == pitch) {
                bits |= 1 << q;
            }
        }
        return bits;
    }

    // ---- asked otherwise

    public int stops(int p, int minute) {
        if (!isPerson(p)) {
            return NO_SUCH;
        }
        if (!isMinute(minute)) {
            return NO_NUMBER;
        }
        know();
        return findStops(p, minute, NONE);
    }

    public int stopBy(int p, int minute, int i) {
        if (!isPerson(p)) {
            return NO_SUCH;
        }
        if (!isMinute(minute) || i < 0) {
            return NO_NUMBER;
        }
        know();
        return findStops(p, minute, i);
    }

    public int quiet(int p, int what) {
        if (!isPerson(p) || what < 0 || what > 1) {
            return NO_SUCH;
        }
        trial.copyFrom(now.plan);
        int best = 0;
        int fewest = MOST_HICCUPS + 1;
        for (int cell = 0; cell < now.cells(); cell++) {
            trial.cell[p] = cell;
            trialLaws.learn(now, trial);
            trialDay.run(trial, trialLaws, MINUTES - 1, NONE);
            if (trialDay.hiccupsOf[p] < fewest) {
                fewest = trialDay.hiccupsOf[p];
                best = cell;
            }
        }
        return what == 0 ? best : fewest;
    }

    public int atOnce(int p, int set) {
        if (!isPerson(p)) {
            return NO_SUCH;
        }
        if (set < 0 || set >= 1 << now.people) {
            return NO_NUMBER;
        }
        int others = set & ~(1 << p);
        if (others == 0) {
            return 0;
        }
        startTrialLaws();
        int cells = 0;
        for (int cell = 0; cell < now.cells(); cell++) {
            trial.cell[p] = cell;
            if (namesAtOnce(p, others)) {
                cells++;
            }
        }
        return cells;
    }

    public int silence(int p, int what) {
        if (!isPerson(p) || what < 0 || what > 2) {
            return NO_SUCH;
        }
        know();
        if (hush.person != p) {
            hush.start(p, now, laws, trial, trialDay);
            hush.seekOne();
            hush.seekTwo();
        }
        if (what == 0) {
            return hush.fewest;
        }
        return what == 1 ? hush.first : hush.second;
    }

    // ---- heard, timed

    public int heard(int tray, int p) {
        int refused = refuseHeard(tray, p);
        return refused != 0 ? refused : findHeard(trays[tray], p);
    }

    public int heardAt(int tray, int p, int i) {
        int refused = refuseHeard(tray, p);
        if (refused != 0) {
            return refused;
        }
        if (i < 0) {
            return NO_NUMBER;
        }
        int cells = findHeard(trays[tray], p);
        return i < cells ? found[i] : NONE;
    }

    public int attempt(int tray, int p) {
        int refused = refuseHeard(tray, p);
        if (refused != 0) {
            return refused;
        }
        int cells = findHeard(trays[tray], p);
        int best = NONE;
        int least = MOST_CELLS + 1;
        for (int q = 0; q < now.people && cells > 0; q++) {
            if (q != p) {
                int most = mostAlike(p, q, cells);
                if (most < least) {
                    least = most;
                    best = q;
                }
            }
        }
        return best;
    }

    public int winds(int tray, int p) {
        if (!isTray(tray) || !isPerson(p)) {
            return NO_SUCH;
        }
        Tray timed = trays[tray];
        if (!timed.there) {
            return TRAY_MISSING;
        }
        if (timed.size < 1 || timed.size > MOST_TIMED) {
            return TOO_MANY;
        }
        for (int i = 0; i < timed.size; i++) {
            if (timed.numbers[i] < 0 || timed.numbers[i] >= MINUTES) {
                return NO_NUMBER;
            }
        }
        trial.copyFrom(now.plan);
        int bits = 0;
        for (int w = 0; w < WINDS; w++) {
            trial.wind = w;
            trialLaws.learn(now, trial);
            trialDay.run(trial, trialLaws, MINUTES - 1, NONE);
            if (trialDay.isTimed(p, timed)) {
                bits |= 1 << w;
            }
        }
        return bits;
    }

    // ---- chances

    public int chance(int p, int what) {
        if (!isPerson(p) || what < 0 || what > 1) {
            return NO_SUCH;
        }
        knowOdds();
        return (int) lowestTerms(odds.nobody[p], odds.all, what);
    }

    public long mean(int p, int what) {
        if (!isPerson(p) || what < 0 || what > 1) {
            return NO_SUCH;
        }
        knowOdds();
        return lowestTerms(odds.hiccups[p], odds.all, what);
    }

    public int famous() {
        if (now.people == 0) {
            return NONE;
        }
        knowOdds();
        int best = 0;
        for (int p = 1; p < now.people; p++) {
            if (odds.hiccups[p] > odds.hiccups[best]) {
                best = p;
            }
        }
        return best;
    }

    // ---- trays, images

    public int numbers(int tray, int sort, int n) {
        if (!isTray(tray) || sort < 0 || sort > 3) {
            return NO_SUCH;
        }
        if (n < 0 || n > TRAY_PLACES) {
            return NO_NUMBER;
        }
        trays[tray].lay(sort, n);
        return 0;
    }

    public long write(int tray, int i, long v) {
        if (!isTray(tray)) {
            return NO_SUCH;
        }
        if (!trays[tray].there) {
            return TRAY_MISSING;
        }
        if (i < 0 || i >= trays[tray].size) {
            return NO_PLACE;
        }
        return trays[tray].put(i, v);
    }

    public int lists(int tray, int p) {
        if (!isTray(tray) || !isPerson(p)) {
            return NO_SUCH;
        }
        if (!trays[tray].there) {
            return TRAY_MISSING;
        }
        know();
        return day.listInto(trays[tray], p);
    }

    public int image(int i) {
        if (!isImage(i)) {
            return NO_SUCH;
        }
        images[i].copyFrom(now);
        imaged[i] = true;
        return 0;
    }

    public int restore(int i) {
        if (!isImage(i)) {
            return NO_SUCH;
        }
        if (!imaged[i]) {
            return NOT_NOW;
        }
        now.copyFrom(images[i]);
        past.forget();
        forgetAnswers();
        return 0;
    }

    public int count(int what) {
        switch (what) {
            case 0: return now.rows;
            case 1: return now.columns;
            case 2: return now.people;
            case 3: return now.plan.namings;
            case 4: return now.plan.wind;
            case 5: return past.kept;
            case 6: return taped;
            case 7: return now.lines;
            default: return NONE;
        }
    }

    // ---- what is there

    private boolean isPerson(int p) {
        return p >= 0 && p < now.people;
    }

    private static boolean isMinute(int t) {
        return t >= 0 && t < MINUTES;
    }

    private static boolean isGap(long gap) {
        return gap >= 1 && gap <= MOST_GAP;
    }

    private static boolean isTray(int tray) {
        return tray >= 0 && tray < TRAYS;
    }

    private static boolean isImage(int i) {
        return i >= 0 && i < IMAGES;
    }

    private void tapeInt(int v) {
        for (int shift = 24; shift >= 0; shift -= 8) {
            if (taped < TEXT_BYTES) {
                tape[taped] = (byte) (v >>> shift);
                taped++;
            }
        }
    }

    // ---- what is known of the day

    /** All that is reckoned from the hill is reckoned anew when it is asked for next. */
    private void forgetAnswers() {
        known = false;
        odds.known = false;
        hush.person = NONE;
    }

    private void know() {
        if (!known) {
            laws.learn(now, now.plan);
            day.run(now.plan, laws, MINUTES - 1, NONE);
            known = true;
        }
    }

    private void knowOdds() {
        know();
        if (!odds.known) {
            odds.reckon(now, laws, trial, trialDay);
        }
    }

    private static long lowestTerms(long above, long below, int what) {
        long a = above;
        long b = below;
        // Euclid's steps on numbers of 64 bits are fewer than a hundred.
        for (int i = 0; i < 100 && b != 0; i++) {
            long rest = a % b;
            a = b;
            b = rest;
        }
        if (a == 0) {
            return 0;
        }
        return what == 0 ? above / a : below / a;
    }

    // ---- deeds

    private int tellIn(Plan plan, int who, int whom, int minute) {
        if (!isPerson(who) || !isPerson(whom) || who == whom || !isMinute(minute)) {
            return NOWHERE;
        }
        if (plan.namings >= MOST_NAMINGS) {
            return FULL;
        }
        plan.add(who, whom, minute, SURE);
        return 0;
    }

    private static int dropIn(Plan plan, int k) {
        if (k < 0 || k >= plan.namings) {
            return NOWHERE;
        }
        plan.remove(k);
        return 0;
    }

    private int moveIn(Plan plan, int p, int cell) {
        if (!isPerson(p) || cell < 0 || cell >= now.cells()) {
            return NOWHERE;
        }
        plan.cell[p] = cell;
        return 0;
    }

    private static int windIn(Plan plan, int n) {
        if (n < 0 || n >= WINDS) {
            return NOWHERE;
        }
        plan.wind = n;
        return 0;
    }

    /** Does the deed told by a number to the plan; else why it can't be. */
    private int deed(Plan plan, long told) {
        if (told < 0 || told > 9009) {
            return NOWHERE;
        }
        int v = (int) told;
        if (v < 8000) {
            return tellIn(plan, v / 1000, v / 100 % 10, v % 100);
        }
        if (v < 8010) {
            return dropIn(plan, v - 8000);
        }
        if (v < 8100) {
            return NOWHERE;
        }
        if (v < 9000) {
            return moveIn(plan, (v - 8100) / 100, v % 100);
        }
        return windIn(plan, v - 9000);
    }

    /** Leaves in the trial what would be; how many deeds can be done up to the first that can't. */
    private int tryDeeds(Tray deeds) {
        trial.copyFrom(now.plan);
        int done = 0;
        while (done < deeds.size && deed(trial, deeds.numbers[done]) == 0) {
            done++;
        }
        return done;
    }

    private void acceptTrial() {
        past.keep(now.plan);
        now.plan.copyFrom(trial);
        forgetAnswers();
    }

    private int draw(int below) {
        drawn = 1103515245 * drawn + 12345;
        return (drawn >>> 16) % below;
    }

    private int drawDeed() {
        switch (draw(5)) {
            case 2: return 8000 + draw(8);
            case 3: return 8100 + 100 * draw(6) + draw(64);
            case 4: return 9000 + draw(10);
            default: return 1000 * draw(6) + 100 * draw(6) + draw(100);
        }
    }

    // ---- asked otherwise

    /** How many namings make p hiccup in the minute, or the i-th of them if i isn't NONE. */
    private int findStops(int p, int minute, int i) {
        boolean anyhow = day.hasHiccup(p, minute);
        trial.copyFrom(now.plan);
        int count = 0;
        for (int c = 0; c < MINUTES * MOST_PEOPLE; c++) {
            int q = c % MOST_PEOPLE;
            int at = c / MOST_PEOPLE;
            if (q < now.people && q != p) {
                boolean stops = anyhow;
                // What is said in the minute itself or later changes nothing in it.
                if (at < minute) {
                    trial.namings = now.plan.namings;
                    trial.add(q, p, at, SURE);
                    trialDay.run(trial, laws, minute, NONE);
                    stops = trialDay.hasHiccup(p, minute);
                }
                if (stops && count == i) {
                    return at * 100 + q;
                }
                count += stops ? 1 : 0;
            }
        }
        return i == NONE ? count : NONE;
    }

    /** Lets the laws of the trial be asked by single pairs. */
    private void startTrialLaws() {
        trial.copyFrom(now.plan);
        trialLaws.take(now, trial);
    }

    private boolean namesAtOnce(int p, int others) {
        int gap = 0;
        for (int q = 0; q < now.people; q++) {
            if ((others >> q & 1) != 0) {
                int its = trialLaws.gapOf(p, q);
                if (gap != 0 && its != gap) {
                    return false;
                }
                gap = its;
            }
        }
        return true;
    }

    private int refuseHeard(int tray, int p) {
        if (!isTray(tray) || !isPerson(p)) {
            return NO_SUCH;
        }
        Tray told = trays[tray];
        if (!told.there) {
            return TRAY_MISSING;
        }
        if (told.size < 1 || told.size > MOST_HEARD) {
            return TOO_MANY;
        }
        for (int i = 0; i < told.size; i++) {
            long v = told.numbers[i];
            if (v < 0 || v / 100 >= now.people || v / 100 == p || !isGap(v % 100)) {
                return NO_NUMBER;
            }
        }
        return 0;
    }

    /** The cells come into the row of those found. */
    private int findHeard(Tray told, int p) {
        startTrialLaws();
        int cells = 0;
        for (int cell = 0; cell < now.cells() && cell < MOST_CELLS; cell++) {
            trial.cell[p] = cell;
            boolean fits = true;
            for (int i = 0; i < told.size && fits; i++) {
                int v = (int) told.numbers[i];
                fits = trialLaws.gapOf(p, v / 100) == v % 100;
            }
            if (fits) {
                found[cells] = cell;
                cells++;
            }
        }
        return cells;
    }

    private int mostAlike(int p, int q, int cells) {
        Arrays.fill(alike, 0);
        int most = 0;
        for (int i = 0; i < cells; i++) {
            trial.cell[p] = found[i];
            int gap = trialLaws.gapOf(p, q);
            alike[gap]++;
            most = Math.max(most, alike[gap]);
        }
        return most;
    }

    /** What a call can bring back by undoing: namings, cells, wind. */
    private static final class Plan {
        int namings;
        final int[] sayer = new int[NAMING_PLACES];
        final int[] named = new int[NAMING_PLACES];
        final int[] at = new int[NAMING_PLACES];
        final int[] sure = new int[NAMING_PLACES];
        final int[] cell = new int[MOST_PEOPLE];
        int wind;

        void copyFrom(Plan plan) {
            namings = plan.namings;
            System.arraycopy(plan.sayer, 0, sayer, 0, NAMING_PLACES);
            System.arraycopy(plan.named, 0, named, 0, NAMING_PLACES);
            System.arraycopy(plan.at, 0, at, 0, NAMING_PLACES);
            System.arraycopy(plan.sure, 0, sure, 0, NAMING_PLACES);
            System.arraycopy(plan.cell, 0, cell, 0, MOST_PEOPLE);
            wind = plan.wind;
        }

        void add(int who, int whom, int minute, int likely) {
            if (namings < 0 || namings >= NAMING_PLACES) {
                return;
            }
            sayer[namings] = who;
            named[namings] = whom;
            at[namings] = minute;
            sure[namings] = likely;
            namings++;
        }

        void remove(int k) {
            for (int i = k; i >= 0 && i + 1 < namings; i++) {
                sayer[i] = sayer[i + 1];
                named[i] = named[i + 1];
                at[i] = at[i + 1];
                sure[i] = sure[i + 1];
            }
            namings--;
        }
    }

    /** A hill as its text tells it, its laws as code whose values come ahead of what joins them. */
    private static final class Hill {
        int rows = 1;
        int columns = 1;
        int lines;
        int people;
        final int[] loud = new int[MOST_PEOPLE];
        final int[] deaf = new int[MOST_PEOPLE];
        final int[] voice = new int[MOST_PEOPLE];
        final int[] code = new int[TEXT_BYTES];
        final int[] lawFrom = new int[LAWS];
        final int[] lawTo = new int[LAWS];
        final Plan plan = new Plan();

        int cells() {
            return rows * columns;
        }

        boolean hasLaw(int law) {
            return lawTo[law] > lawFrom[law];
        }

        void clear() {
            rows = 1;
            columns = 1;
            lines = 0;
            people = 0;
            Arrays.fill(lawFrom, 0);
            Arrays.fill(lawTo, 0);
            plan.namings = 0;
            plan.wind = 0;
        }

        void copyFrom(Hill hill) {
            rows = hill.rows;
            columns = hill.columns;
            lines = hill.lines;
            people = hill.people;
            System.arraycopy(hill.loud, 0, loud, 0, MOST_PEOPLE);
            System.arraycopy(hill.deaf, 0, deaf, 0, MOST_PEOPLE);
            System.arraycopy(hill.voice, 0, voice, 0, MOST_PEOPLE);
            System.arraycopy(hill.code, 0, code, 0, TEXT_BYTES);
            System.arraycopy(hill.lawFrom, 0, lawFrom, 0, LAWS);
            System.arraycopy(hill.lawTo, 0, lawTo, 0, LAWS);
            plan.copyFrom(hill.plan);
        }
    }

    /** Reads a text into a hill; the first fault stops it. */
    private static final class Reader {
        int fault;
        int faultPlace = NONE;
        private byte[] text;
        private Hill hill;
        private int tokens;
        private final int[] kind = new int[TEXT_BYTES + 1];
        private final int[] place = new int[TEXT_BYTES + 1];
        private final int[] value = new int[TEXT_BYTES + 1];
        private int at;
        private int coded;
        private boolean inAnswers;

        boolean read(byte[] tape, int length, Hill into) {
            text = tape;
            hill = into;
            split(length);
            hill.clear();
            at = 0;
            coded = 0;
            fault = 0;
            faultPlace = NONE;
            readFirstLine();
            for (int i = 0; i < tokens && fault == 0 && kind[at] != T_END; i++) {
                readLine();
            }
            return fault == 0;
        }

        /** A bad token may stand in the row: the fault is told only when reading comes to it. */
        private void split(int length) {
            tokens = 0;
            int next;
            for (int i = 0; i < length; i = next) {
                next = i + 1;
                int c = text[i];
                if (isLetter(c)) {
                    while (next < length && isLetter(text[next])) {
                        next++;
                    }
                    putToken(wordKind(i, next), i, 0);
                } else if (isDigit(c)) {
                    while (next < length && isDigit(text[next])) {
                        next++;
                    }
                    putNumber(i, next);
                } else if (c != 10 && c != 32) {
                    int sign = c < 0 ? -1 : SIGNS.indexOf((char) c);
                    putToken(sign < 0 ? T_BAD : S_FIRST + sign, i, 0);
                }
            }
            putToken(T_END, length, 0);
        }

        private static boolean isLetter(int c) {
            return c >= 'a' && c <= 'z';
        }

        private static boolean isDigit(int c) {
            return c >= '0' && c <= '9';
        }

        private void putToken(int its, int where, int number) {
            if (tokens < kind.length) {
                kind[tokens] = its;
                place[tokens] = where;
                value[tokens] = number;
                tokens++;
            }
        }

        private void putNumber(int from, int to) {
            if (to - from > 3) {
                putToken(T_BAD, from, 0);
                return;
            }
            int number = 0;
            for (int i = from; i < to; i++) {
                number = number * 10 + text[i] - '0';
            }
            putToken(T_NUMBER, from, number);
        }

        private int wordKind(int from, int to) {
            for (int w = 0; w < WORD_COUNT && to - from < WORD_PLACES; w++) {
                int same = 0;
                while (from + same < to && text[from + same] == WORDS.charAt(w * WORD_PLACES + same)) {
                    same++;
                }
                if (from + same == to && WORDS.charAt(w * WORD_PLACES + same) == ' ') {
                    return w;
                }
            }
            return T_STRANGE_WORD;
        }

        /** Of one token the least kind: one that can't begin can't be anything else. */
        private void fail(int why) {
            if (fault == 0) {
                fault = kind[at] == T_BAD ? FAULT_BAD : why;
                faultPlace = place[at];
            }
        }

        private boolean isAt(int its) {
            return fault == 0 && kind[at] == its;
        }

        /** The end is never gone past. */
        private void step() {
            if (fault == 0 && at + 1 < tokens) {
                at++;
            }
        }

        private void expect(int its) {
            if (isAt(its)) {
                step();
            } else {
                fail(FAULT_PLACE);
            }
        }

        private int readNumber(int least, int most) {
            if (!isAt(T_NUMBER)) {
                fail(FAULT_PLACE);
                return 0;
            }
            int number = value[at];
            if (number < least || number > most) {
                fail(FAULT_BOUNDS);
                return 0;
            }
            step();
            return number;
        }

        private void readFirstLine() {
            expect(W_HILL);
            hill.rows = readNumber(1, 8);
            hill.columns = readNumber(1, 8);
            expect(S_SEMICOLON);
            hill.lines = 1;
        }

        private void readLine() {
            switch (kind[at]) {
                case W_PERSON: readPerson(); break;
                case W_NAMES: readNaming(); break;
                case W_WIND:
                    step();
                    hill.plan.wind = readNumber(0, WINDS - 1);
                    break;
                case W_GAPS: readLaw(LAW_GAPS); break;
                case W_PITCH: readLaw(LAW_PITCH); break;
                case W_ANSWERS: readLaw(LAW_ANSWERS); break;
                default: fail(FAULT_PLACE);
            }
            expect(S_SEMICOLON);
            hill.lines++;
        }

        private void readPerson() {
            int p = hill.people;
            if (p >= MOST_PEOPLE) {
                fail(FAULT_MANY);
                return;
            }
            step();
            hill.plan.cell[p] = readNumber(0, hill.cells() - 1);
            hill.loud[p] = 0;
            hill.deaf[p] = 0;
            hill.voice[p] = 0;
            for (int left = tokens; left > 0 && (isAt(W_LOUD) || isAt(W_DEAF) || isAt(W_VOICE)); left--) {
                int flag = kind[at];
                step();
                int number = readNumber(0, MOST_DIGIT);
                if (flag == W_LOUD) {
                    hill.loud[p] = number;
                } else if (flag == W_DEAF) {
                    hill.deaf[p] = number;
                } else {
                    hill.voice[p] = number;
                }
            }
            hill.people++;
        }

        private void readNaming() {
            if (hill.plan.namings >= MOST_NAMINGS) {
                fail(FAULT_MANY);
                return;
            }
            step();
            int who = readNumber(0, hill.people - 1);
            if (isAt(T_NUMBER) && value[at] == who) {
                fail(FAULT_BOUNDS);
            }
            int whom = readNumber(0, hill.people - 1);
            expect(W_AT);
            int minute = readNumber(0, MINUTES - 1);
            int likely = SURE;
            for (int left = tokens; left > 0 && isAt(W_SURE); left--) {
                step();
                likely = readNumber(0, SURE);
            }
            hill.plan.add(who, whom, minute, likely);
        }

        private void readLaw(int law) {
            step();
            expect(S_COLON);
            int from = coded;
            inAnswers = law == LAW_ANSWERS;
            if (inAnswers) {
                readTruth(0);
            } else {
                readSum(0);
            }
            hill.lawFrom[law] = from;
            hill.lawTo[law] = coded;
        }

        private void emit(int op) {
            if (fault == 0 && coded < hill.code.length) {
                hill.code[coded] = op;
                coded++;
            }
        }

        /** Goes into a not, a bracket or an if, unless six are open. */
        private boolean enter(int depth) {
            if (depth >= MOST_NESTED) {
                fail(FAULT_MANY);
                return false;
            }
            step();
            return true;
        }

        private void readTruth(int depth) {
            readBoth(depth);
            for (int left = tokens; left > 0 && isAt(W_OR); left--) {
                step();
                readBoth(depth);
                emit(CODE_TOKEN + W_OR);
            }
        }

        private void readBoth(int depth) {
            readUnit(depth);
            for (int left = tokens; left > 0 && isAt(W_AND); left--) {
                step();
                readUnit(depth);
                emit(CODE_TOKEN + W_AND);
            }
        }

        private void readUnit(int depth) {
            if (isAt(W_NOT)) {
                if (enter(depth)) {
                    readUnit(depth + 1);
                    emit(CODE_TOKEN + W_NOT);
                }
            } else if (isAt(S_OPEN_SQUARE)) {
                if (enter(depth)) {
                    readTruth(depth + 1);
                    expect(S_CLOSE_SQUARE);
                }
            } else {
                readSum(depth);
                int sign = kind[at];
                if (isAt(S_EQUAL) || isAt(S_LESS) || isAt(S_MORE)) {
                    step();
                } else {
                    fail(FAULT_PLACE);
                }
                if (fault == 0) {
                    readSum(depth);
                    emit(CODE_TOKEN + sign);
                }
            }
        }

        private void readSum(int depth) {
            readTerm(depth);
            for (int left = tokens; left > 0 && (isAt(S_PLUS) || isAt(S_MINUS)); left--) {
                int sign = kind[at];
                step();
                readTerm(depth);
                emit(CODE_TOKEN + sign);
            }
        }

        private void readTerm(int depth) {
            readAtom(depth);
            for (int left = tokens; left > 0 && isAt(S_TIMES); left--) {
                step();
                readAtom(depth);
                emit(CODE_TOKEN + S_TIMES);
            }
        }

        private void readAtom(int depth) {
            int its = kind[at];
            if (isAt(S_OPEN)) {
                if (enter(depth)) {
                    readSum(depth + 1);
                    expect(S_CLOSE);
                }
            } else if (isAt(W_IF)) {
                if (enter(depth)) {
                    readChoice(depth + 1);
                }
            } else if (its == T_NUMBER) {
                emit(value[at]);
                step();
            } else if (its >= W_WIND && its <= (inAnswers ? W_MINUTE : W_FAR)) {
                emit(CODE_TOKEN + its);
                step();
            } else {
                fail(FAULT_PLACE);
            }
        }

        private void readChoice(int depth) {
            readTruth(depth);
            expect(W_THEN);
            if (fault == 0) {
                readSum(depth);
            }
            expect(W_ELSE);
            if (fault == 0) {
                readSum(depth);
            }
            expect(W_END);
            emit(CODE_TOKEN + W_IF);
        }
    }

    /** Gaps and pitches of all pairs (six times who and whom), as all are in one plan. */
    private static final class Laws {
        final int[] far = new int[MOST_PAIRS];
        final int[] gap = new int[MOST_PAIRS];
        final int[] pitch = new int[MOST_PAIRS];
        private Hill hill;
        private Plan plan;
        private final int[] name = new int[NAMES];
        private final int[] stack = new int[STACK];
        /** Of each pair a bit for each minute, in two parts of 64: whether the answer is known, and which it is. */
        private final long[] asked = new long[2 * MOST_PAIRS];
        private final long[] answered = new long[2 * MOST_PAIRS];

        void take(Hill its, Plan as) {
            hill = its;
            plan = as;
            Arrays.fill(asked, 0);
            Arrays.fill(answered, 0);
        }

        void learn(Hill its, Plan as) {
            take(its, as);
            for (int who = 0; who < hill.people; who++) {
                for (int whom = 0; whom < hill.people; whom++) {
                    if (who != whom) {
                        int pair = who * MOST_PEOPLE + whom;
                        gap[pair] = gapOf(who, whom);
                        far[pair] = name[W_FAR - W_WIND];
                        int told = hill.hasLaw(LAW_PITCH) ? work(LAW_PITCH) : hill.voice[who];
                        pitch[pair] = Math.max(0, Math.min(MOST_DIGIT, told));
                    }
                }
            }
        }

        /** Leaves the names of the two in place, for what is asked of them next. */
        int gapOf(int who, int whom) {
            nameTwo(who, whom);
            int told = hill.hasLaw(LAW_GAPS) ? work(LAW_GAPS) : name[W_FAR - W_WIND] + 1;
            return Math.max(1, Math.min(MOST_GAP, told));
        }

        private void nameTwo(int who, int whom) {
            int columns = hill.columns < 1 ? 1 : hill.columns;
            int a = plan.cell[who];
            int b = plan.cell[whom];
            name[0] = plan.wind;
            name[W_LOUD - W_WIND] = hill.loud[who];
            name[W_DEAF - W_WIND] = hill.deaf[whom];
            name[W_VOICE - W_WIND] = hill.voice[who];
            name[4] = who;
            name[5] = whom;
            name[W_FAR - W_WIND] = Math.abs(a / columns - b / columns) + Math.abs(a % columns - b % columns);
        }

        /** Many days of one plan ask the same of the law, so what it told is kept. */
        boolean isAnswered(int pair, int minute) {
            if (!hill.hasLaw(LAW_ANSWERS)) {
                return false;
            }
            int i = 2 * pair + (minute >> 6);
            long bit = 1L << (minute & 63);
            if ((asked[i] & bit) == 0) {
                nameTwo(pair / MOST_PEOPLE, pair % MOST_PEOPLE);
                name[W_GAP - W_WIND] = gap[pair];
                name[W_MINUTE - W_WIND] = minute;
                asked[i] |= bit;
                answered[i] |= work(LAW_ANSWERS) != 0 ? bit : 0;
            }
            return (answered[i] & bit) != 0;
        }

        private int work(int law) {
            int top = 0;
            for (int i = hill.lawFrom[law]; i < hill.lawTo[law]; i++) {
                int op = hill.code[i];
                int token = op - CODE_TOKEN;
                boolean isName = token >= W_WIND && token <= W_MINUTE;
                int taken = token < 0 || isName ? 0 : token == W_NOT ? 1 : token == W_IF ? 3 : 2;
                if (top < taken || top - taken >= STACK) {
                    return 0;
                }
                top -= taken;
                int first = taken > 0 ? stack[top] : 0;
                int second = taken > 1 ? stack[top + 1] : 0;
                long made;
                switch (token) {
                    case W_NOT: made = 1 - first; break;
                    case W_IF: made = first != 0 ? second : stack[top + 2]; break;
                    case W_AND: made = first & second; break;
                    case W_OR: made = first | second; break;
                    case S_EQUAL: made = first == second ? 1 : 0; break;
                    case S_LESS: made = first < second ? 1 : 0; break;
                    case S_MORE: made = first > second ? 1 : 0; break;
                    case S_PLUS: made = first + second; break;
                    case S_MINUS: made = first - second; break;
                    case S_TIMES: made = (long) first * second; break;
                    default: made = isName ? name[token - W_WIND] : op;
                }
                stack[top] = (int) Math.max(-KEPT, Math.min(KEPT, made));
                top++;
            }
            return top > 0 ? stack[top - 1] : 0;
        }
    }

    /** One day as it goes by a plan and the laws of its pairs. */
    private static final class Day {
        int hiccups;
        final int[] hiccupPair = new int[MOST_HICCUPS];
        final int[] hiccupMinute = new int[MOST_HICCUPS];
        final int[] hiccupsOf = new int[MOST_PEOPLE];
        final int[] answersBy = new int[MOST_PEOPLE];
        final int[] said = new int[NAMING_PLACES];
        /** When the one watched said a naming of its own: there the day ends early. */
        int spokeAt;
        private Plan plan;
        private Laws laws;
        private final int[] firstNaming = new int[MINUTES];
        private final int[] nextNaming = new int[NAMING_PLACES];
        private final int[] firstDue = new int[MINUTES];
        private final int[] lastDue = new int[MINUTES];
        private int sayings;
        private final int[] saidPair = new int[MOST_HICCUPS];
        private final int[] nextDue = new int[MOST_HICCUPS];

        /** The day up to a last minute, or till the one watched (NONE: no one) says a naming; true if it doesn't. */
        boolean run(Plan as, Laws by, int last, int watched) {
            plan = as;
            laws = by;
            clear();
            int before = 0;
            for (int t = 0; t <= last && t < MINUTES; t++) {
                int from = hiccups;
                if (firstDue[t] >= 0 || firstNaming[t] >= 0 || from > before) {
                    int busy = come(t);
                    sayNamings(t, busy, watched);
                    if (spokeAt != NONE) {
                        return false;
                    }
                    sayAnswers(t, busy, before, from);
                }
                before = from;
            }
            return true;
        }

        private void clear() {
            hiccups = 0;
            sayings = 0;
            spokeAt = NONE;
            Arrays.fill(hiccupsOf, 0);
            Arrays.fill(answersBy, 0);
            Arrays.fill(said, 0);
            Arrays.fill(firstDue, NONE);
            Arrays.fill(firstNaming, NONE);
            for (int k = plan.namings - 1; k >= 0; k--) {
                nextNaming[k] = firstNaming[plan.at[k]];
                firstNaming[plan.at[k]] = k;
            }
        }

        /** Who has a hiccup in the minute, as bits. */
        private int come(int t) {
            int busy = 0;
            for (int s = firstDue[t]; s >= 0 && hiccups < MOST_HICCUPS; s = nextDue[s]) {
                int pair = saidPair[s];
                int whom = pair % MOST_PEOPLE;
                hiccupPair[hiccups] = pair;
                hiccupMinute[hiccups] = t;
                hiccups++;
                hiccupsOf[whom]++;
                busy |= 1 << whom;
            }
            return busy;
        }

        private void sayNamings(int t, int busy, int watched) {
            int k = firstNaming[t];
            for (int left = plan.namings; left > 0 && k >= 0; left--) {
                int who = plan.sayer[k];
                if ((busy >> who & 1) == 0) {
                    said[k] = 1;
                    say(who * MOST_PEOPLE + plan.named[k], t);
                    if (who == watched) {
                        spokeAt = t;
                    }
                }
                k = nextNaming[k];
            }
        }

        /** Answers those hiccups of the minute ahead, told by their numbers. */
        private void sayAnswers(int t, int busy, int from, int to) {
            for (int k = from; k < to; k++) {
                int pair = hiccupPair[k];
                int whom = pair % MOST_PEOPLE;
                if ((busy >> whom & 1) == 0 && laws.isAnswered(pair, t - 1)) {
                    answersBy[whom]++;
                    say(whom * MOST_PEOPLE + pair / MOST_PEOPLE, t);
                }
            }
        }

        private void say(int pair, int t) {
            int due = t + laws.gap[pair];
            if (due >= MINUTES || sayings >= MOST_HICCUPS) {
                return;
            }
            saidPair[sayings] = pair;
            nextDue[sayings] = NONE;
            if (firstDue[due] < 0) {
                firstDue[due] = sayings;
            } else {
                nextDue[lastDue[due]] = sayings;
            }
            lastDue[due] = sayings;
            sayings++;
        }

        int nobodies(int people) {
            int bits = 0;
            for (int p = 0; p < people; p++) {
                if (hiccupsOf[p] == 0) {
                    bits |= 1 << p;
                }
            }
            return bits;
        }

        boolean hasHiccup(int p, int minute) {
            for (int k = hiccups - 1; k >= 0 && hiccupMinute[k] >= minute; k--) {
                if (hiccupMinute[k] == minute && hiccupPair[k] % MOST_PEOPLE == p) {
                    return true;
                }
            }
            return false;
        }

        boolean isTimed(int p, Tray timed) {
            if (hiccupsOf[p] != timed.size) {
                return false;
            }
            int i = 0;
            for (int k = 0; k < hiccups && i < timed.size; k++) {
                if (hiccupPair[k] % MOST_PEOPLE == p) {
                    if (hiccupMinute[k] != timed.numbers[i]) {
                        return false;
                    }
                    i++;
                }
            }
            return true;
        }

        int listInto(Tray tray, int p) {
            int i = 0;
            for (int k = 0; k < hiccups && i < tray.size; k++) {
                if (hiccupPair[k] % MOST_PEOPLE == p) {
                    tray.put(i, hiccupMinute[k]);
                    i++;
                }
            }
            return i;
        }
    }

    /** By which namings a person says none of its own; kept for the person asked last. */
    private static final class Hush {
        int person = NONE;
        int fewest;
        int first;
        int second;
        private Laws laws;
        private Plan trial;
        private Day day;
        private int people;
        private int told;
        private int last;
        private int candidates;

        void start(int p, Hill hill, Laws by, Plan some, Day asked) {
            person = p;
            people = hill.people;
            laws = by;
            trial = some;
            day = asked;
            trial.copyFrom(hill.plan);
            told = trial.namings;
            last = NONE;
            for (int k = 0; k < told; k++) {
                if (trial.sayer[k] == p) {
                    last = Math.max(last, trial.at[k]);
                }
            }
            first = NONE;
            second = NONE;
            fewest = day.run(trial, laws, last, p) ? 0 : NONE;
            candidates = inTime();
        }

        /** What is told at the minute in which it speaks, or later, comes too late to stop it. */
        private int inTime() {
            return Math.min(day.spokeAt, SILENT_MINUTES) * MOST_PEOPLE;
        }

        void seekOne() {
            for (int a = 0; a < candidates && fewest == NONE; a++) {
                if (isNaming(a)) {
                    trial.namings = told;
                    tellToo(a);
                    if (day.run(trial, laws, last, person)) {
                        fewest = 1;
                        first = code(a);
                    }
                }
            }
        }

        void seekTwo() {
            for (int a = 0; a < candidates && fewest == NONE; a++) {
                if (isNaming(a)) {
                    trial.namings = told;
                    tellToo(a);
                    day.run(trial, laws, last, person);
                    int most = inTime();
                    for (int b = a + 1; b < most && fewest == NONE; b++) {
                        if (isNaming(b)) {
                            trial.namings = told + 1;
                            tellToo(b);
                            if (day.run(trial, laws, last, person)) {
                                fewest = 2;
                                first = code(a);
                                second = code(b);
                            }
                        }
                    }
                }
            }
        }

        private boolean isNaming(int candidate) {
            int who = candidate % MOST_PEOPLE;
            return who < people && who != person;
        }

        private static int code(int candidate) {
            return candidate / MOST_PEOPLE * 100 + candidate % MOST_PEOPLE;
        }

        private void tellToo(int candidate) {
            trial.add(candidate % MOST_PEOPLE, person, candidate / MOST_PEOPLE, SURE);
        }
    }

    /** How likely all is, weighed: each way the namings can go by its share of all. */
    private static final class Odds {
        boolean known;
        long all;
        final long[] nobody = new long[MOST_PEOPLE];
        final long[] hiccups = new long[MOST_PEOPLE];

        void reckon(Hill hill, Laws laws, Plan trial, Day day) {
            Plan plan = hill.plan;
            Arrays.fill(nobody, 0);
            Arrays.fill(hiccups, 0);
            all = 1;
            for (int k = 0; k < plan.namings; k++) {
                all *= SURE;
            }
            for (int set = 0; set < 1 << plan.namings; set++) {
                long weight = tellSome(plan, set, trial);
                if (weight != 0) {
                    day.run(trial, laws, MINUTES - 1, NONE);
                    for (int p = 0; p < hill.people; p++) {
                        nobody[p] += day.hiccupsOf[p] == 0 ? weight : 0;
                        hiccups[p] += weight * day.hiccupsOf[p];
                    }
                }
            }
            known = true;
        }

        private static long tellSome(Plan plan, int set, Plan trial) {
            trial.namings = 0;
            long weight = 1;
            for (int k = 0; k < plan.namings && weight != 0; k++) {
                if ((set >> k & 1) != 0) {
                    weight *= plan.sure[k];
                    trial.add(plan.sayer[k], plan.named[k], plan.at[k], SURE);
                } else {
                    weight *= SURE - plan.sure[k];
                }
            }
            return weight;
        }
    }

    /** Plans ahead of the calls that can be undone, the eldest first. */
    private static final class Past {
        int kept;
        private final Plan[] plans = new Plan[MOST_UNDO];

        Past() {
            for (int i = 0; i < MOST_UNDO; i++) {
                plans[i] = new Plan();
            }
        }

        void forget() {
            kept = 0;
        }

        void keep(Plan plan) {
            if (kept >= MOST_UNDO) {
                Plan eldest = plans[0];
                for (int i = 1; i < MOST_UNDO; i++) {
                    plans[i - 1] = plans[i];
                }
                plans[MOST_UNDO - 1] = eldest;
                kept = MOST_UNDO - 1;
            }
            plans[kept].copyFrom(plan);
            kept++;
        }

        void takeBack(int n, Plan into) {
            if (n < 1 || n > kept) {
                return;
            }
            kept -= n;
            into.copyFrom(plans[kept]);
        }
    }

    /** Numbers of one sort, in a row that is used again. */
    private static final class Tray {
        boolean there;
        int sort;
        int size;
        final long[] numbers = new long[TRAY_PLACES];

        void lay(int its, int n) {
            there = true;
            sort = its;
            size = n;
            Arrays.fill(numbers, 0);
        }

        long put(int i, long v) {
            if (i < 0 || i >= size) {
                return NO_PLACE;
            }
            switch (sort) {
                case 0: numbers[i] = (byte) v; break;
                case 1: numbers[i] = (short) v; break;
                case 2: numbers[i] = (int) v; break;
                default: numbers[i] = v;
            }
            return numbers[i];
        }
    }
}
