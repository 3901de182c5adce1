import java.util.Arrays;

/** A cliff of hermits' holes, told as a text, and a pilgrim who climbs it. */
public final class HermitLadder {
    public static final int NONE = -1;

    private static final int NO_SUCH = -2;
    private static final int BAD_NUMBER = -3;
    private static final int TOO_MANY = -4;
    private static final int NOT_NOW = -5;
    private static final int TRAY_MISSING = -6;
    private static final int NO_PLACE = -7;
    private static final int WHY_CODE = -10;
    private static final int FAULT_CODE = -30;

    private static final int TAPE_LENGTH = 900;
    private static final int TOP_LIMIT = 8;
    private static final int RUNGS = TOP_LIMIT + 1;
    private static final int THINGS = 6;
    private static final int SETS = 1 << THINGS;
    private static final int STRONGEST = 4;
    private static final int STRENGTHS = STRONGEST + 1;
    private static final int STANDS = RUNGS * SETS * STRENGTHS;
    private static final int WINDS = 10;
    private static final int GUSTS = 9;
    private static final int PAST = 10;
    private static final int TRAYS = 4;
    private static final int TRAY_PLACES = 40;
    private static final int IMAGES = 2;
    private static final int HABIT_TIMES = 99;
    private static final int LIES_TIMES = 99999;
    private static final int YEAR_TIMES = 40;
    private static final int ROW_DEEDS = 10;
    private static final int SEEN_NUMBERS = 6;
    private static final int TIRED_NUMBERS = 8;
    private static final int CHANCE_DEEDS = 8;

    private static final int REST = 0;
    private static final int CLIMB = 1;
    private static final int DOWN = 2;
    private static final int FALL = 10;
    private static final int TAKE = 20;
    private static final int BLOW = 30;
    private static final int MOST_MOVES = 3 + THINGS;

    private static final int NO_DEED = 1;
    private static final int LACKING = 2;
    private static final int BARRED = 3;
    private static final int FORBIDDEN = 4;

    private final int[] tape = new int[TAPE_LENGTH];
    private int taped = 0;
    private final Cliff cliff = new Cliff();
    private final Cliff spare = new Cliff();
    private final Reader reader = new Reader(tape);
    private final Pilgrim now = new Pilgrim();
    private final Pilgrim trial = new Pilgrim();
    private final Pilgrim[] past = new Pilgrim[PAST];
    private int undoable = 0;
    private final Tray[] trays = new Tray[TRAYS];
    private final Cliff[] imageCliffs = new Cliff[IMAGES];
    private final Pilgrim[] imagePilgrims = new Pilgrim[IMAGES];
    private final Laws laws = new Laws(cliff);
    private final Moves moves = new Moves(cliff, laws);
    private final Coming coming = new Coming(moves);
    private final Rows rowCounter;
    private final Slips slipping;
    private final Sharing sharing;

    public HermitLadder() {
        for (int i = 0; i < PAST; i++) {
            past[i] = new Pilgrim();
        }
        for (int i = 0; i < TRAYS; i++) {
            trays[i] = new Tray();
        }
        // None of these needs its rows from one call to the next, so they lie on the same ones.
        int[] first = new int[STANDS];
        int[] second = new int[STANDS];
        long[] third = new long[STANDS];
        long[] fourth = new long[STANDS];
        rowCounter = new Rows(moves, coming, first, third, fourth);
        slipping = new Slips(cliff, moves, first, second, third, fourth);
        sharing = new Sharing(cliff, first);
        now.begin(cliff);
    }

    // ---- the cliff

    public int feed(int a, int b, int c, int d, int e) {
        if (taped + 20 > TAPE_LENGTH) {
            return NOT_NOW;
        }
        tapeInt(a);
        tapeInt(b);
        tapeInt(c);
        tapeInt(d);
        tapeInt(e);
        return taped;
    }

    private void tapeInt(int v) {
        for (int shift = 24; shift >= 0 && taped < TAPE_LENGTH; shift -= 8) {
            tape[taped] = v >>> shift & 255;
            taped++;
        }
    }

    public int cliff(int n) {
        if (n < 0 || n > taped) {
            return BAD_NUMBER;
        }
        taped = 0;
        if (!reader.readText(n, spare)) {
            return FAULT_CODE - reader.fault;
        }
        cliff.copyFrom(spare);
        now.begin(cliff);
        startAnew();
        return cliff.lines;
    }

    /** What was reckoned by another cliff holds no more, nor can its deeds come back. */
    private void startAnew() {
        undoable = 0;
        laws.forget();
        settle();
    }

    private void settle() {
        laws.useWind(now.wind);
        coming.forget();
    }

    public int fault(int what) {
        if (what == 0) {
            return reader.fault;
        }
        return what == 1 ? reader.place : NONE;
    }

    public int hole(int rung, int what) {
        if (!cliff.isRung(rung)) {
            return NO_SUCH;
        }
        switch (what) {
            case 0: return cliff.bars[rung];
            case 1: return cliff.gives[rung];
            case 2: return cliff.rough[rung];
            default: return NO_SUCH;
        }
    }

    public int why(int deed) {
        return moves.refusal(now.stand, deed);
    }

    public int by(int deed, int what) {
        if (what < 0 || what > 2) {
            return NO_SUCH;
        }
        int stand = moves.after(now.stand, deed);
        if (stand == NONE) {
            return NOT_NOW;
        }
        if (what == 0) {
            return rungOf(stand);
        }
        return what == 1 ? thingsOf(stand) : strengthOf(stand);
    }

    // ---- deeds

    public int act(int deed) {
        int reason = moves.refusal(now.stand, deed);
        if (reason != 0) {
            return WHY_CODE - reason;
        }
        trial.copyFrom(now);
        step(trial, deed);
        keepTrial();
        return rungOf(now.stand);
    }

    /** Does a deed, or another wind, as in a tray; answers why it can't be, 0 if it was done. */
    private int step(Pilgrim who, int deed) {
        if (deed >= BLOW && deed < BLOW + WINDS) {
            who.wind = deed - BLOW;
            laws.useWind(who.wind);
            return 0;
        }
        int reason = moves.refusal(who.stand, deed);
        if (reason == 0) {
            who.stand = moves.behind(who.stand, deed);
            who.deeds++;
        }
        return reason;
    }

    private void keepTrial() {
        remember();
        now.copyFrom(trial);
        settle();
    }

    private void remember() {
        if (undoable == PAST) {
            Pilgrim eldest = past[0];
            for (int i = 1; i < PAST; i++) {
                past[i - 1] = past[i];
            }
            past[PAST - 1] = eldest;
            undoable--;
        }
        past[undoable].copyFrom(now);
        undoable++;
    }

    public int wind(int n) {
        if (n < 0 || n >= WINDS) {
            return WHY_CODE - NO_DEED;
        }
        int before = now.wind;
        trial.copyFrom(now);
        step(trial, BLOW + n);
        keepTrial();
        return before;
    }

    public int habit(int n) {
        if (n < 1 || n > HABIT_TIMES) {
            return BAD_NUMBER;
        }
        trial.copyFrom(now);
        for (int i = 0; i < n; i++) {
            step(trial, moves.habitual(trial.stand));
        }
        keepTrial();
        return rungOf(now.stand);
    }

    public int undo(int n) {
        if (n < 1 || n > undoable) {
            return BAD_NUMBER;
        }
        undoable -= n;
        now.copyFrom(past[undoable]);
        settle();
        return undoable;
    }

    public int judge(int tray, int what) {
        if (!isTray(tray) || what < 0 || what > 3) {
            return NO_SUCH;
        }
        if (trays[tray].missing) {
            return TRAY_MISSING;
        }
        int done = follow(trays[tray]);
        boolean all = done == trays[tray].size;
        int reason = all ? 0 : moves.refusal(trial.stand, trays[tray].deedAt(done));
        laws.useWind(now.wind);
        switch (what) {
            case 0: return all ? NONE : done;
            case 1: return reason;
            case 2: return rungOf(trial.stand);
            default: return thingsOf(trial.stand);
        }
    }

    /** Does a tray's deeds on the trial, till one can't be: how many. */
    private int follow(Tray tray) {
        trial.copyFrom(now);
        int done = 0;
        while (done < tray.size && step(trial, tray.deedAt(done)) == 0) {
            done++;
        }
        return done;
    }

    public int perform(int tray) {
        int code = trayRefused(tray);
        if (code != 0) {
            return code;
        }
        int done = follow(trays[tray]);
        if (done > 0) {
            keepTrial();
        }
        return done;
    }

    public int year(int seed, int times) {
        if (times < 1 || times > YEAR_TIMES) {
            return BAD_NUMBER;
        }
        trial.copyFrom(now);
        int done = 0;
        int x = seed;
        for (int i = 0; i < times; i++) {
            x = nextSeed(x);
            int kind = (x >>> 16) % 8;
            int thing = 0;
            if (kind >= 5) {
                x = nextSeed(x);
                thing = (x >>> 16) % 6;
            }
            if (step(trial, drawnDeed(kind, thing)) == 0) {
                done++;
            }
        }
        if (done > 0) {
            keepTrial();
        }
        return done;
    }

    private static int nextSeed(int x) {
        return 1103515245 * x + 12345;
    }

    private static int drawnDeed(int kind, int thing) {
        if (kind == 0) {
            return REST;
        }
        if (kind <= 3) {
            return CLIMB;
        }
        if (kind == 4) {
            return DOWN;
        }
        return kind == 5 ? FALL + thing : TAKE + thing;
    }

    // ---- coming

    public int soonest(int rung, int set) {
        int code = comingRefused(rung, set);
        if (code != 0) {
            return code;
        }
        coming.explore(now.stand);
        return coming.deedsTo(coming.goal(rung, set));
    }

    private int comingRefused(int rung, int set) {
        if (!cliff.isRung(rung)) {
            return NO_SUCH;
        }
        return cliff.isSet(set) ? 0 : BAD_NUMBER;
    }

    public int way(int rung, int set, int i) {
        int code = comingRefused(rung, set);
        if (code != 0) {
            return code;
        }
        if (i < 0) {
            return BAD_NUMBER;
        }
        coming.explore(now.stand);
        return coming.deedOnTheWay(coming.goal(rung, set), i);
    }

    public long rows(int rung, int set, int n) {
        int code = comingRefused(rung, set);
        if (code != 0) {
            return code;
        }
        if (n < 0 || n > ROW_DEEDS) {
            return BAD_NUMBER;
        }
        coming.explore(now.stand);
        rowCounter.wantNothing(n);
        rowCounter.tally(now.stand);
        return rowCounter.endingOn(rung, set);
    }

    public int highest(int set) {
        if (!cliff.isSet(set)) {
            return BAD_NUMBER;
        }
        coming.explore(now.stand);
        return coming.topRungWith(set);
    }

    public int most(int rung, int what) {
        if (!cliff.isRung(rung) || what < 0 || what > 1) {
            return NO_SUCH;
        }
        coming.explore(now.stand);
        int set = coming.richestSet(rung);
        return set == NONE || what == 1 ? set : Integer.bitCount(set);
    }

    public int loses(int rung) {
        if (!cliff.isRung(rung)) {
            return NO_SUCH;
        }
        coming.explore(now.stand);
        int kept = coming.everHadOn(rung);
        return kept == NONE ? 0 : thingsOf(now.stand) & ~kept;
    }

    public int stands() {
        coming.explore(now.stand);
        return coming.size;
    }

    // ---- what falls

    public int lands(int rung, int thing) {
        if (!cliff.isRung(rung) || !cliff.isThing(thing)) {
            return NO_SUCH;
        }
        int below = rung - 1;
        while (below >= 0 && !cliff.holds(below, thing)) {
            below--;
        }
        return below >= 0 ? below : NONE;
    }

    public int shares(int rung, int set, int what) {
        if (!cliff.isRung(rung) || what != 0 && !isTenAndThing(what)) {
            return NO_SUCH;
        }
        if (!cliff.isSet(set)) {
            return BAD_NUMBER;
        }
        sharing.reckon(rung, set);
        return what == 0 ? sharing.landed() : sharing.rungOfThing(set, what - 10);
    }

    private boolean isTenAndThing(int what) {
        return what >= 10 && cliff.isThing(what - 10);
    }

    // ---- by habit

    public int lies(int n) {
        if (n < 0 || n > LIES_TIMES) {
            return BAD_NUMBER;
        }
        int stand = now.stand;
        int times = Math.min(n, timesTillSettled());
        for (int i = 0; i < times; i++) {
            stand = moves.afterHabit(stand);
        }
        return rungOf(stand);
    }

    /**
     * By habit one never goes down nor takes anything, so what comes round for ever can only be a
     * rest at full strength that changes nothing.
     */
    private int timesTillSettled() {
        int stand = now.stand;
        for (int times = 0; times < STANDS; times++) {
            int next = moves.afterHabit(stand);
            if (next == stand) {
                return times;
            }
            stand = next;
        }
        return STANDS;
    }

    public int round(int what) {
        if (what == 0) {
            return timesTillSettled();
        }
        return what == 1 ? 1 : NO_SUCH;
    }

    public int when(int rung) {
        if (!cliff.isRung(rung)) {
            return NO_SUCH;
        }
        int stand = now.stand;
        int last = timesTillSettled();
        for (int times = 0; times <= last; times++) {
            if (rungOf(stand) == rung) {
                return times;
            }
            stand = moves.afterHabit(stand);
        }
        return NONE;
    }

    // ---- seen

    public long seen(int tray) {
        int code = tallySeen(tray);
        return code != 0 ? code : rowCounter.endingOn(NONE, 0);
    }

    public int seenBy(int tray, int i) {
        int code = tallySeen(tray);
        if (code != 0) {
            return code;
        }
        return i < 0 ? BAD_NUMBER : rowCounter.deedOfFirst(now.stand, i);
    }

    public int surely(int tray) {
        int code = tallySeen(tray);
        return code != 0 ? code : rowCounter.commonThings();
    }

    /** Counts the rows by which it is as seen in a tray; answers a refusal's code, else 0. */
    private int tallySeen(int tray) {
        int code = toldRefused(tray, SEEN_NUMBERS, NONE, THINGS);
        if (code == 0) {
            coming.explore(now.stand);
            rowCounter.want(trays[tray]);
            rowCounter.tally(now.stand);
        }
        return code;
    }

    /** The refusals that trays have in common in which something was told, 0 if there is none. */
    private int toldRefused(int tray, int places, int least, int greatest) {
        int code = trayRefused(tray);
        if (code != 0) {
            return code;
        }
        Tray told = trays[tray];
        if (told.size < 1 || told.size > places) {
            return TOO_MANY;
        }
        for (int i = 0; i < told.size; i++) {
            if (told.numbers[i] < least || told.numbers[i] > greatest) {
                return BAD_NUMBER;
            }
        }
        return 0;
    }

    // ---- tired

    public int winds(int tray) {
        int code = toldRefused(tray, TIRED_NUMBERS, 0, STRONGEST);
        return code != 0 ? code : windsThatTire(trays[tray]);
    }

    private int windsThatTire(Tray tray) {
        int found = 0;
        for (int w = 0; w < WINDS; w++) {
            laws.useWind(w);
            if (tiresAsTold(tray)) {
                found |= 1 << w;
            }
        }
        laws.useWind(now.wind);
        return found;
    }

    private boolean tiresAsTold(Tray tray) {
        int stand = now.stand;
        for (int i = 0; i < tray.size; i++) {
            int climbed = moves.after(stand, CLIMB);
            stand = climbed != NONE ? climbed : moves.after(stand, REST);
            if (strengthOf(stand) != tray.numbers[i]) {
                return false;
            }
        }
        return true;
    }

    public int attempt(int tray) {
        int code = toldRefused(tray, TIRED_NUMBERS, 0, STRONGEST);
        if (code != 0) {
            return code;
        }
        int possible = windsThatTire(trays[tray]);
        int chosen = NONE;
        int fewest = WINDS + 1;
        for (int deed = REST; deed <= DOWN && possible != 0; deed++) {
            int alike = mostAlike(possible, deed);
            if (alike < fewest) {
                fewest = alike;
                chosen = deed;
            }
        }
        laws.useWind(now.wind);
        return chosen;
    }

    /** Of these winds, the greatest number that a deed leaves indistinguishable. */
    private int mostAlike(int possible, int deed) {
        int[] ends = new int[WINDS];
        int greatest = 0;
        for (int w = 0; w < WINDS; w++) {
            if ((possible >> w & 1) == 0) {
                ends[w] = NONE;
                continue;
            }
            laws.useWind(w);
            int end = moves.after(now.stand, deed);
            ends[w] = end == NONE ? now.stand : end;
            int alike = 0;
            for (int v = 0; v <= w; v++) {
                if (ends[v] == ends[w]) {
                    alike++;
                }
            }
            greatest = Math.max(greatest, alike);
        }
        return greatest;
    }

    // ---- gusts, slips

    public int withstands(int rung) {
        if (!cliff.isRung(rung)) {
            return NO_SUCH;
        }
        // A gust takes no more than a rest gives back, and one can always rest: so where one can
        // come at all, one comes though there are ever so many gusts.
        coming.explore(now.stand);
        return coming.goal(rung, 0) == NONE ? NONE : GUSTS;
    }

    public int chance(int rung, int n, int what) {
        if (!cliff.isRung(rung) || what < 0 || what > 1) {
            return NO_SUCH;
        }
        if (n < 0 || n > CHANCE_DEEDS) {
            return BAD_NUMBER;
        }
        slipping.reckon(now.stand, rung, n);
        return what == 0 ? slipping.numerator() : slipping.denominator();
    }

    public int best(int rung, int n) {
        if (!cliff.isRung(rung)) {
            return NO_SUCH;
        }
        if (n < 0 || n > CHANCE_DEEDS) {
            return BAD_NUMBER;
        }
        slipping.reckon(now.stand, rung, n);
        return slipping.firstDeed;
    }

    // ---- trays, images

    private static boolean isTray(int tray) {
        return tray >= 0 && tray < TRAYS;
    }

    private int trayRefused(int tray) {
        if (!isTray(tray)) {
            return NO_SUCH;
        }
        return trays[tray].missing ? TRAY_MISSING : 0;
    }

    public int numbers(int tray, int sort, int n) {
        if (!isTray(tray) || sort < 0 || sort > 3) {
            return NO_SUCH;
        }
        if (n < 0 || n > TRAY_PLACES) {
            return BAD_NUMBER;
        }
        trays[tray].make(sort, n);
        return 0;
    }

    public long write(int tray, int i, long v) {
        int code = trayRefused(tray);
        if (code != 0) {
            return code;
        }
        if (i < 0 || i >= trays[tray].size) {
            return NO_PLACE;
        }
        return trays[tray].put(i, v);
    }

    public int lists(int tray, int rung, int set) {
        if (!isTray(tray) || !cliff.isRung(rung)) {
            return NO_SUCH;
        }
        if (trays[tray].missing) {
            return TRAY_MISSING;
        }
        if (!cliff.isSet(set)) {
            return BAD_NUMBER;
        }
        coming.explore(now.stand);
        int goal = coming.goal(rung, set);
        if (goal == NONE) {
            return NOT_NOW;
        }
        int listed = Math.min(coming.deedsTo(goal), trays[tray].size);
        for (int i = 0; i < listed; i++) {
            trays[tray].put(i, coming.deedOnTheWay(goal, i));
        }
        return listed;
    }

    private static boolean isImage(int i) {
        return i >= 0 && i < IMAGES;
    }

    public int image(int i) {
        if (!isImage(i)) {
            return NO_SUCH;
        }
        if (imageCliffs[i] == null || imagePilgrims[i] == null) {
            imageCliffs[i] = new Cliff();
            imagePilgrims[i] = new Pilgrim();
        }
        imageCliffs[i].copyFrom(cliff);
        imagePilgrims[i].copyFrom(now);
        return 0;
    }

    public int restore(int i) {
        if (!isImage(i)) {
            return NO_SUCH;
        }
        if (imageCliffs[i] == null || imagePilgrims[i] == null) {
            return NOT_NOW;
        }
        cliff.copyFrom(imageCliffs[i]);
        now.copyFrom(imagePilgrims[i]);
        startAnew();
        return 0;
    }

    public int count(int what) {
        switch (what) {
            case 0: return cliff.top;
            case 1: return cliff.things;
            case 2: return rungOf(now.stand);
            case 3: return thingsOf(now.stand);
            case 4: return strengthOf(now.stand);
            case 5: return now.wind;
            case 6: return now.deeds;
            case 7: return undoable;
            case 8: return taped;
            case 9: return cliff.lines;
            default: return NONE;
        }
    }

    // ---- stands: a rung, things and a strength as one number, so that it is a row's index

    private static int standOf(int rung, int things, int strength) {
        return (rung * SETS + things) * STRENGTHS + strength;
    }

    private static int rungOf(int stand) {
        return stand / (SETS * STRENGTHS);
    }

    private static int thingsOf(int stand) {
        return stand / STRENGTHS % SETS;
    }

    private static int strengthOf(int stand) {
        return stand % STRENGTHS;
    }

    /** What is brought back by undoing. */
    private static final class Pilgrim {
        int stand = 0;
        int wind = 0;
        int deeds = 0;

        void begin(Cliff cliff) {
            stand = standOf(cliff.startRung, cliff.startThings, cliff.startStrength);
            wind = cliff.startWind;
            deeds = 0;
        }

        void copyFrom(Pilgrim other) {
            stand = other.stand;
            wind = other.wind;
            deeds = other.deeds;
        }
    }

    /** What the text tells; the laws as signs in the order in which a stack needs them. */
    private static final class Cliff {
        static final int FIRST_FACT = 1000;
        static final int FACTS = 6;
        static final int PLUS = 1010;
        static final int MINUS = 1011;
        static final int TIMES = 1012;
        static final int EQUAL = 1013;
        static final int LESS = 1014;
        static final int GREATER = 1015;
        static final int AND = 1016;
        static final int OR = 1017;
        static final int NOT = 1018;
        static final int PICK = 1019;

        int top;
        int things;
        final int[] bars = new int[RUNGS];
        final int[] gives = new int[RUNGS];
        final int[] rough = new int[RUNGS];
        int startRung;
        int startThings;
        int startStrength;
        int startWind;
        int slips;
        int lines;
        final int[] code = new int[TAPE_LENGTH];
        int coded;
        int tiresFrom;
        int tiresTo;
        int mayFrom;
        int mayTo;

        Cliff() {
            top = 1;
            startStrength = STRONGEST;
        }

        void clear() {
            top = 1;
            things = 0;
            Arrays.fill(bars, 0);
            Arrays.fill(gives, 0);
            Arrays.fill(rough, 0);
            startRung = 0;
            startThings = 0;
            startStrength = STRONGEST;
            startWind = 0;
            slips = 0;
            lines = 0;
            coded = 0;
            tiresFrom = 0;
            tiresTo = 0;
            mayFrom = 0;
            mayTo = 0;
        }

        void copyFrom(Cliff other) {
            top = other.top;
            things = other.things;
            System.arraycopy(other.bars, 0, bars, 0, RUNGS);
            System.arraycopy(other.gives, 0, gives, 0, RUNGS);
            System.arraycopy(other.rough, 0, rough, 0, RUNGS);
            startRung = other.startRung;
            startThings = other.startThings;
            startStrength = other.startStrength;
            startWind = other.startWind;
            slips = other.slips;
            lines = other.lines;
            System.arraycopy(other.code, 0, code, 0, other.coded);
            coded = other.coded;
            tiresFrom = other.tiresFrom;
            tiresTo = other.tiresTo;
            mayFrom = other.mayFrom;
            mayTo = other.mayTo;
        }

        boolean isRung(int rung) {
            return rung >= 0 && rung <= top;
        }

        boolean isThing(int thing) {
            return thing >= 0 && thing < things;
        }

        boolean isSet(int set) {
            return set >= 0 && set < 1 << things;
        }

        /** Whether a thing let fall can lie on a rung. */
        boolean holds(int rung, int thing) {
            return ((bars[rung] | gives[rung]) >> thing & 1) == 0;
        }

        /** Each token brings one sign at most, so the signs of a text never outgrow it. */
        boolean addSign(int sign) {
            if (coded < TAPE_LENGTH) {
                code[coded] = sign;
                coded++;
            }
            return true;
        }
    }

    /** Reads a text into a cliff, token by token; the first token that is at fault ends it. */
    private static final class Reader {
        private static final int UNKNOWN = 1;
        private static final int MISPLACED = 2;
        private static final int OUT_OF_BOUNDS = 3;
        private static final int TOO_DEEP = 4;
        private static final int DEEPEST = 6;
        private static final int LONGEST_NUMBER = 3;

        private static final int END = 0;
        private static final int BAD = 1;
        private static final int NUMBER = 2;
        private static final int OTHER = 3;

        private final int[] text;
        private int length;
        private int start;
        private int end;
        private int kind;
        private int value;
        private Cliff cliff;
        private boolean inMay;
        int fault = 0;
        int place = NONE;

        Reader(int[] text) {
            this.text = text;
        }

        boolean readText(int n, Cliff into) {
            length = Math.min(n, text.length);
            end = 0;
            fault = 0;
            place = NONE;
            cliff = into;
            cliff.clear();
            advance();
            boolean good = readFirstLine();
            for (int i = 0; i < TAPE_LENGTH && good && kind != END; i++) {
                good = readLine() && expect(";");
                cliff.lines++;
            }
            return good;
        }

        private boolean readFirstLine() {
            if (!expect("cliff") || !expect("rungs")) {
                return false;
            }
            int top = readNumber(1, TOP_LIMIT);
            if (top == NONE || !expect("things")) {
                return false;
            }
            int things = readNumber(0, THINGS);
            if (things == NONE) {
                return false;
            }
            cliff.top = top;
            cliff.things = things;
            cliff.lines = 1;
            return expect(";");
        }

        private boolean readLine() {
            if (accept("hole")) {
                return readHole();
            }
            if (accept("pilgrim")) {
                return readPilgrim();
            }
            if (accept("wind")) {
                cliff.startWind = readNumber(0, WINDS - 1);
                return cliff.startWind != NONE;
            }
            if (accept("slips")) {
                cliff.slips = readNumber(0, 10);
                return cliff.slips != NONE;
            }
            if (accept("tires")) {
                return expect(":") && readTires();
            }
            if (accept("may")) {
                return expect(":") && readMay();
            }
            return refuse();
        }

        private boolean readHole() {
            int rung = readNumber(0, cliff.top);
            boolean good = rung != NONE;
            for (int i = 0; i < TAPE_LENGTH && good; i++) {
                if (accept("bars")) {
                    int thing = readThing();
                    good = thing != NONE;
                    cliff.bars[rung] |= good ? 1 << thing : 0;
                } else if (accept("gives")) {
                    int thing = readThing();
                    good = thing != NONE;
                    cliff.gives[rung] |= good ? 1 << thing : 0;
                } else if (accept("rough")) {
                    cliff.rough[rung] = readNumber(0, 9);
                    good = cliff.rough[rung] != NONE;
                } else {
                    return true;
                }
            }
            return good;
        }

        private boolean readPilgrim() {
            if (!expect("at")) {
                return false;
            }
            cliff.startRung = readNumber(0, cliff.top);
            if (cliff.startRung == NONE || !expect("strength")) {
                return false;
            }
            cliff.startStrength = readNumber(0, STRONGEST);
            cliff.startThings = 0;
            boolean good = cliff.startStrength != NONE;
            for (int i = 0; i < TAPE_LENGTH && good && accept("has"); i++) {
                int thing = readThing();
                good = thing != NONE;
                cliff.startThings |= good ? 1 << thing : 0;
            }
            return good;
        }

        private boolean readTires() {
            inMay = false;
            int from = cliff.coded;
            boolean good = readSum(0);
            cliff.tiresFrom = from;
            cliff.tiresTo = cliff.coded;
            return good;
        }

        private boolean readMay() {
            inMay = true;
            int from = cliff.coded;
            boolean good = readTruth(0);
            cliff.mayFrom = from;
            cliff.mayTo = cliff.coded;
            return good;
        }

        private boolean readTruth(int depth) {
            boolean good = readBoth(depth);
            for (int i = 0; i < TAPE_LENGTH && good && accept("or"); i++) {
                good = readBoth(depth) && cliff.addSign(Cliff.OR);
            }
            return good;
        }

        private boolean readBoth(int depth) {
            boolean good = readUnit(depth);
            for (int i = 0; i < TAPE_LENGTH && good && accept("and"); i++) {
                good = readUnit(depth) && cliff.addSign(Cliff.AND);
            }
            return good;
        }

        private boolean readUnit(int depth) {
            if (tokenIs("not")) {
                return goDeeper(depth) && readUnit(depth + 1) && cliff.addSign(Cliff.NOT);
            }
            if (tokenIs("[")) {
                return goDeeper(depth) && readTruth(depth + 1) && expect("]");
            }
            if (!readSum(depth)) {
                return false;
            }
            int sign = comparison();
            if (sign == NONE) {
                return refuse();
            }
            advance();
            return readSum(depth) && cliff.addSign(sign);
        }

        private int comparison() {
            if (tokenIs("=")) {
                return Cliff.EQUAL;
            }
            if (tokenIs("<")) {
                return Cliff.LESS;
            }
            return tokenIs(">") ? Cliff.GREATER : NONE;
        }

        private boolean readSum(int depth) {
            boolean good = readTerm(depth);
            for (int i = 0; i < TAPE_LENGTH && good; i++) {
                if (accept("+")) {
                    good = readTerm(depth) && cliff.addSign(Cliff.PLUS);
                } else if (accept("-")) {
                    good = readTerm(depth) && cliff.addSign(Cliff.MINUS);
                } else {
                    return true;
                }
            }
            return good;
        }

        private boolean readTerm(int depth) {
            boolean good = readAtom(depth);
            for (int i = 0; i < TAPE_LENGTH && good && accept("*"); i++) {
                good = readAtom(depth) && cliff.addSign(Cliff.TIMES);
            }
            return good;
        }

        private boolean readAtom(int depth) {
            if (kind == NUMBER) {
                cliff.addSign(value);
                advance();
                return true;
            }
            if (tokenIs("(")) {
                return goDeeper(depth) && readSum(depth + 1) && expect(")");
            }
            if (tokenIs("if")) {
                return goDeeper(depth) && readIf(depth + 1);
            }
            int fact = factTold();
            if (fact == NONE) {
                return refuse();
            }
            cliff.addSign(Cliff.FIRST_FACT + fact);
            advance();
            return true;
        }

        private boolean readIf(int depth) {
            return readTruth(depth) && expect("then") && readSum(depth)
                && expect("else") && readSum(depth) && expect("end")
                && cliff.addSign(Cliff.PICK);
        }

        private int factTold() {
            if (tokenIs("rung")) {
                return Laws.RUNG;
            }
            if (tokenIs("rough")) {
                return Laws.ROUGH;
            }
            if (tokenIs("strength")) {
                return Laws.STRENGTH;
            }
            if (tokenIs("things")) {
                return Laws.COUNT;
            }
            if (tokenIs("wind")) {
                return Laws.WIND;
            }
            return inMay && tokenIs("room") ? Laws.ROOM : NONE;
        }

        private boolean goDeeper(int depth) {
            if (depth >= DEEPEST) {
                return findFault(TOO_DEEP);
            }
            advance();
            return true;
        }

        private boolean accept(String word) {
            if (!tokenIs(word)) {
                return false;
            }
            advance();
            return true;
        }

        private boolean expect(String word) {
            if (!tokenIs(word)) {
                return refuse();
            }
            advance();
            return true;
        }

        private int readThing() {
            return readNumber(0, cliff.things - 1);
        }

        /** A number within its bounds, or NONE behind a fault. */
        private int readNumber(int least, int greatest) {
            if (kind != NUMBER) {
                refuse();
                return NONE;
            }
            if (value < least || value > greatest) {
                findFault(OUT_OF_BOUNDS);
                return NONE;
            }
            int read = value;
            advance();
            return read;
        }

        private boolean refuse() {
            return findFault(kind == BAD ? UNKNOWN : MISPLACED);
        }

        private boolean findFault(int which) {
            fault = which;
            place = start;
            return false;
        }

        private boolean tokenIs(String word) {
            if (kind != OTHER || end - start != word.length()) {
                return false;
            }
            for (int i = 0; i < word.length(); i++) {
                if (text[start + i] != word.charAt(i)) {
                    return false;
                }
            }
            return true;
        }

        private void advance() {
            start = end;
            while (start < length && (text[start] == 10 || text[start] == 32)) {
                start++;
            }
            end = start;
            value = 0;
            if (start >= length) {
                kind = END;
                return;
            }
            while (end < length && isDigit(text[end])) {
                value = end - start < LONGEST_NUMBER ? value * 10 + text[end] - '0' : value;
                end++;
            }
            if (end > start) {
                kind = end - start <= LONGEST_NUMBER ? NUMBER : BAD;
                return;
            }
            while (end < length && isLetter(text[end])) {
                end++;
            }
            kind = end > start || isSign(text[start]) ? OTHER : BAD;
            end = Math.max(end, start + 1);
        }

        private static boolean isDigit(int c) {
            return c >= '0' && c <= '9';
        }

        private static boolean isLetter(int c) {
            return c >= 'a' && c <= 'z';
        }

        private static boolean isSign(int c) {
            return ";:+-*()[]=<>".indexOf((char) c) >= 0;
        }
    }

    /** What the laws tell of a climb in one wind, each kind of climb being reckoned once. */
    private static final class Laws {
        static final int RUNG = 0;
        static final int ROUGH = 1;
        static final int STRENGTH = 2;
        static final int COUNT = 3;
        static final int WIND = 4;
        static final int ROOM = 5;
        private static final int UNTOLD = -2;
        private static final int COUNTS = THINGS + 1;
        private static final int FARTHEST = 1000000;
        /** Seven levels of brackets, on each of which at most seven values wait. */
        private static final int STACK = 64;

        private final Cliff cliff;
        private final int[] told = new int[RUNGS * COUNTS * STRENGTHS];
        private final int[] facts = new int[Cliff.FACTS];
        private final int[] stack = new int[STACK];
        private int wind = 0;

        Laws(Cliff cliff) {
            this.cliff = cliff;
            forget();
        }

        void forget() {
            Arrays.fill(told, UNTOLD);
        }

        void useWind(int w) {
            if (w != wind) {
                wind = w;
                forget();
            }
        }

        /** The strength behind a climb to the next rung, which is there; NONE if may forbids it. */
        int strengthAbove(int stand) {
            int rung = rungOf(stand) + 1;
            int things = Integer.bitCount(thingsOf(stand));
            int strength = strengthOf(stand);
            if (rung > cliff.top) {
                return NONE;
            }
            int place = (rung * COUNTS + things) * STRENGTHS + strength;
            if (told[place] != UNTOLD) {
                return told[place];
            }
            learnFacts(rung, things, strength);
            boolean allowed = strength >= 1;
            if (cliff.mayFrom < cliff.mayTo) {
                allowed = reckon(cliff.mayFrom, cliff.mayTo) != 0;
            }
            int left = strength - 1;
            if (allowed && cliff.tiresFrom < cliff.tiresTo) {
                left = reckon(cliff.tiresFrom, cliff.tiresTo);
            }
            told[place] = allowed ? Math.max(0, Math.min(STRONGEST, left)) : NONE;
            return told[place];
        }

        private void learnFacts(int rung, int things, int strength) {
            facts[RUNG] = rung;
            facts[ROUGH] = cliff.rough[rung];
            facts[STRENGTH] = strength;
            facts[COUNT] = things;
            facts[WIND] = wind;
            facts[ROOM] = cliff.things - Integer.bitCount(cliff.bars[rung]);
        }

        private int reckon(int from, int to) {
            int height = 0;
            for (int i = from; i < to && height < STACK; i++) {
                int sign = cliff.code[i];
                if (sign < Cliff.FIRST_FACT) {
                    stack[height] = sign;
                    height++;
                } else if (sign < Cliff.FIRST_FACT + Cliff.FACTS) {
                    stack[height] = facts[sign - Cliff.FIRST_FACT];
                    height++;
                } else {
                    height = operate(sign, height);
                }
            }
            return height > 0 ? stack[0] : 0;
        }

        /** Takes an operator's values off the stack and lays its own there: the height then. */
        private int operate(int sign, int height) {
            if (sign == Cliff.NOT && height >= 1) {
                stack[height - 1] = 1 - stack[height - 1];
                return height;
            }
            if (sign == Cliff.PICK && height >= 3) {
                stack[height - 3] = stack[height - 3] != 0 ? stack[height - 2] : stack[height - 1];
                return height - 2;
            }
            if (height < 2) {
                return height;
            }
            long a = stack[height - 2];
            long b = stack[height - 1];
            long v = 0;
            switch (sign) {
                case Cliff.PLUS: v = a + b; break;
                case Cliff.MINUS: v = a - b; break;
                case Cliff.TIMES: v = a * b; break;
                case Cliff.EQUAL: v = a == b ? 1 : 0; break;
                case Cliff.LESS: v = a < b ? 1 : 0; break;
                case Cliff.GREATER: v = a > b ? 1 : 0; break;
                case Cliff.AND: v = a & b; break;
                case Cliff.OR: v = a | b; break;
                default: break;
            }
            stack[height - 2] = (int) Math.max(-FARTHEST, Math.min(FARTHEST, v));
            return height - 1;
        }
    }

    /** What deeds bring, and why they can't be. */
    private static final class Moves {
        private final Cliff cliff;
        private final Laws laws;
        /** What gather() found: deeds in their order and the stands behind them. */
        final int[] deeds = new int[MOST_MOVES];
        final int[] ends = new int[MOST_MOVES];
        private int found = 0;

        Moves(Cliff cliff, Laws laws) {
            this.cliff = cliff;
            this.laws = laws;
        }

        int refusal(int stand, int deed) {
            int rung = rungOf(stand);
            int things = thingsOf(stand);
            if (deed == REST) {
                return 0;
            }
            if (deed == CLIMB) {
                int reason = entryRefusal(rung + 1, things);
                return reason == 0 && laws.strengthAbove(stand) == NONE ? FORBIDDEN : reason;
            }
            if (deed == DOWN) {
                return entryRefusal(rung - 1, things);
            }
            if (cliff.isThing(deed - FALL)) {
                return (things >> (deed - FALL) & 1) != 0 ? 0 : LACKING;
            }
            if (cliff.isThing(deed - TAKE)) {
                return takeRefusal(rung, things, 1 << (deed - TAKE));
            }
            return NO_DEED;
        }

        private int entryRefusal(int rung, int things) {
            if (!cliff.isRung(rung)) {
                return LACKING;
            }
            return (cliff.bars[rung] & things) != 0 ? BARRED : 0;
        }

        private int takeRefusal(int rung, int things, int thing) {
            if ((things & thing) != 0 || (cliff.gives[rung] & thing) == 0) {
                return LACKING;
            }
            return (cliff.bars[rung] & thing) != 0 ? BARRED : 0;
        }

        /** The stand behind a deed, NONE if it can't be. */
        int after(int stand, int deed) {
            return refusal(stand, deed) == 0 ? behind(stand, deed) : NONE;
        }

        /** The stand behind a deed that can be. */
        int behind(int stand, int deed) {
            int rung = rungOf(stand);
            int things = thingsOf(stand);
            int strength = strengthOf(stand);
            if (deed == REST) {
                return standOf(rung, things, Math.min(STRONGEST, strength + 1));
            }
            if (deed == CLIMB) {
                return standOf(rung + 1, things, laws.strengthAbove(stand));
            }
            if (deed == DOWN) {
                return standOf(rung - 1, things, strength);
            }
            int thing = deed < TAKE ? 1 << (deed - FALL) : 1 << (deed - TAKE);
            return standOf(rung, things ^ thing, strength);
        }

        /** Finds all deeds that can be, the least first: how many. */
        int gather(int stand) {
            int rung = rungOf(stand);
            int things = thingsOf(stand);
            found = 0;
            keep(REST, strengthOf(stand) < STRONGEST ? stand + 1 : stand);
            if (entryRefusal(rung + 1, things) == 0) {
                int left = laws.strengthAbove(stand);
                if (left != NONE) {
                    keep(CLIMB, standOf(rung + 1, things, left));
                }
            }
            if (entryRefusal(rung - 1, things) == 0) {
                keep(DOWN, standOf(rung - 1, things, strengthOf(stand)));
            }
            gatherThings(stand, things, FALL);
            gatherThings(stand, cliff.gives[rung] & ~cliff.bars[rung] & ~things, TAKE);
            return found;
        }

        private void gatherThings(int stand, int set, int firstDeed) {
            int rung = rungOf(stand);
            int things = thingsOf(stand);
            int strength = strengthOf(stand);
            for (int thing = 0; thing < THINGS; thing++) {
                if ((set >> thing & 1) != 0) {
                    keep(firstDeed + thing, standOf(rung, things ^ 1 << thing, strength));
                }
            }
        }

        private void keep(int deed, int end) {
            if (found < MOST_MOVES) {
                deeds[found] = deed;
                ends[found] = end;
                found++;
            }
        }

        int habitual(int stand) {
            if (refusal(stand, CLIMB) == 0) {
                return CLIMB;
            }
            int next = rungOf(stand) + 1;
            if (!cliff.isRung(next)) {
                return REST;
            }
            int barred = thingsOf(stand) & cliff.bars[next];
            for (int thing = 0; thing < THINGS; thing++) {
                if ((barred >> thing & 1) != 0) {
                    return FALL + thing;
                }
            }
            return REST;
        }

        int afterHabit(int stand) {
            return behind(stand, habitual(stand));
        }
    }

    /**
     * All stands to which rows of deeds lead, in the order of the fewest deeds and, among as few,
     * of the deeds as numbers: so the first that fits is the one to come to.
     */
    private static final class Coming {
        private final Moves moves;
        final int[] order = new int[STANDS];
        final int[] depth = new int[STANDS];
        private final int[] from = new int[STANDS];
        int size = 0;
        private boolean known = false;

        Coming(Moves moves) {
            this.moves = moves;
        }

        void forget() {
            known = false;
        }

        /** All that is asked below is asked behind this. */
        void explore(int start) {
            if (known) {
                return;
            }
            known = true;
            Arrays.fill(depth, NONE);
            depth[start] = 0;
            order[0] = start;
            size = 1;
            for (int i = 0; i < size && i < STANDS; i++) {
                leaveFrom(order[i]);
            }
        }

        private void leaveFrom(int stand) {
            int found = moves.gather(stand);
            for (int i = 0; i < found; i++) {
                int end = moves.ends[i];
                if (depth[end] == NONE && size < STANDS) {
                    depth[end] = depth[stand] + 1;
                    from[end] = stand;
                    order[size] = end;
                    size++;
                }
            }
        }

        /** The stand to which to come, NONE if it can't be. */
        int goal(int rung, int set) {
            for (int i = 0; i < size; i++) {
                if (rungOf(order[i]) == rung && (set & ~thingsOf(order[i])) == 0) {
                    return order[i];
                }
            }
            return NONE;
        }

        int deedsTo(int goal) {
            return goal == NONE ? NONE : depth[goal];
        }

        int deedOnTheWay(int goal, int i) {
            if (goal == NONE || i >= depth[goal]) {
                return NONE;
            }
            int stand = goal;
            for (int k = depth[goal] - 1; k > i; k--) {
                stand = from[stand];
            }
            return firstDeed(from[stand], stand);
        }

        private int firstDeed(int stand, int end) {
            int found = moves.gather(stand);
            for (int i = 0; i < found; i++) {
                if (moves.ends[i] == end) {
                    return moves.deeds[i];
                }
            }
            return NONE;
        }

        int topRungWith(int set) {
            int highest = NONE;
            for (int i = 0; i < size; i++) {
                if ((set & ~thingsOf(order[i])) == 0) {
                    highest = Math.max(highest, rungOf(order[i]));
                }
            }
            return highest;
        }

        int richestSet(int rung) {
            int richest = NONE;
            for (int i = 0; i < size; i++) {
                if (rungOf(order[i]) == rung && isRicher(thingsOf(order[i]), richest)) {
                    richest = thingsOf(order[i]);
                }
            }
            return richest;
        }

        private static boolean isRicher(int set, int than) {
            if (than == NONE) {
                return true;
            }
            int more = Integer.bitCount(set) - Integer.bitCount(than);
            return more > 0 || more == 0 && set < than;
        }

        /** Every thing that can be had on a rung by some row, NONE if it can't be come to. */
        int everHadOn(int rung) {
            int had = 0;
            boolean come = false;
            for (int i = 0; i < size; i++) {
                if (rungOf(order[i]) == rung) {
                    come = true;
                    had |= thingsOf(order[i]);
                }
            }
            return come ? had : NONE;
        }
    }

    /** Counts rows of deeds, behind each of which a number of things may be wanted. */
    private static final class Rows {
        private final Moves moves;
        private final Coming coming;
        private final int[] wanted = new int[ROW_DEEDS];
        private long[] counts;
        private long[] fresh;
        /** Bit m: some row stands there behind m deeds. */
        private final int[] levels;
        private int length = 0;

        Rows(Moves moves, Coming coming, int[] levels, long[] counts, long[] fresh) {
            this.moves = moves;
            this.coming = coming;
            this.levels = levels;
            this.counts = counts;
            this.fresh = fresh;
        }

        void wantNothing(int n) {
            length = Math.min(n, ROW_DEEDS);
            Arrays.fill(wanted, NONE);
        }

        void want(Tray tray) {
            length = Math.min(tray.size, ROW_DEEDS);
            for (int i = 0; i < length; i++) {
                wanted[i] = (int) tray.numbers[i];
            }
        }

        void tally(int start) {
            for (int i = 0; i < coming.size; i++) {
                levels[coming.order[i]] = 0;
            }
            counts[start] = 1;
            levels[start] = 1;
            for (int m = 1; m <= length; m++) {
                spread(m);
            }
        }

        /** The m-th deed; stands farther than m deeds have no rows yet, and are not looked at. */
        private void spread(int m) {
            int within = within(m);
            for (int i = 0; i < within; i++) {
                fresh[coming.order[i]] = 0;
            }
            int before = within(m - 1);
            for (int i = 0; i < before; i++) {
                int stand = coming.order[i];
                int found = counts[stand] == 0 ? 0 : moves.gather(stand);
                for (int k = 0; k < found; k++) {
                    int end = moves.ends[k];
                    if (isWanted(Integer.bitCount(thingsOf(end)), m)) {
                        fresh[end] += counts[stand];
                        levels[end] |= 1 << m;
                    }
                }
            }
            long[] old = counts;
            counts = fresh;
            fresh = old;
        }

        private boolean isWanted(int things, int m) {
            return wanted[m - 1] == NONE || wanted[m - 1] == things;
        }

        private int within(int deeds) {
            int n = 0;
            while (n < coming.size && coming.depth[coming.order[n]] <= deeds) {
                n++;
            }
            return n;
        }

        /** How many rows end on a rung (NONE: on any) with a set. */
        long endingOn(int rung, int set) {
            long sum = 0;
            int within = within(length);
            for (int i = 0; i < within; i++) {
                int stand = coming.order[i];
                if ((rung == NONE || rungOf(stand) == rung) && (set & ~thingsOf(stand)) == 0) {
                    sum += counts[stand];
                }
            }
            return sum;
        }

        int commonThings() {
            int common = NONE;
            int within = within(length);
            for (int i = 0; i < within; i++) {
                if (counts[coming.order[i]] != 0) {
                    common &= thingsOf(coming.order[i]);
                }
            }
            return common == NONE ? 0 : common;
        }

        int deedOfFirst(int start, int i) {
            dropDeadEnds();
            if (i >= length || (levels[start] & 1) == 0) {
                return NONE;
            }
            int stand = start;
            int deed = NONE;
            for (int m = 1; m <= i + 1; m++) {
                int onward = firstOnward(stand, m);
                if (onward == NONE) {
                    return NONE;
                }
                stand = moves.ends[onward];
                deed = moves.deeds[onward];
            }
            return deed;
        }

        private void dropDeadEnds() {
            for (int m = length - 1; m >= 0; m--) {
                int within = within(m);
                for (int i = 0; i < within; i++) {
                    int stand = coming.order[i];
                    if ((levels[stand] >> m & 1) != 0 && firstOnward(stand, m + 1) == NONE) {
                        levels[stand] &= ~(1 << m);
                    }
                }
            }
        }

        /** Which of the deeds that can be is the first behind which a row stands as the m-th. */
        private int firstOnward(int stand, int m) {
            int found = moves.gather(stand);
            for (int i = 0; i < found; i++) {
                if ((levels[moves.ends[i]] >> m & 1) != 0) {
                    return i;
                }
            }
            return NONE;
        }
    }

    /** How likely a rung is come to by few deeds, if climbs may slip. */
    private static final class Slips {
        private final Cliff cliff;
        private final Moves moves;
        private final int[] order;
        private final int[] depth;
        private int size = 0;
        /** How likely it is from a stand, in 10 to the power of the deeds that are left. */
        private long[] likely;
        private long[] fresh;
        private int rung = 0;
        private long whole = 1;
        private long result = 0;
        int firstDeed = NONE;

        Slips(Cliff cliff, Moves moves, int[] order, int[] depth, long[] likely, long[] fresh) {
            this.cliff = cliff;
            this.moves = moves;
            this.order = order;
            this.depth = depth;
            this.likely = likely;
            this.fresh = fresh;
        }

        void reckon(int start, int target, int n) {
            rung = target;
            whole = 1;
            explore(start, n);
            for (int m = 1; m <= n; m++) {
                whole *= 10;
                reckonWithin(n - m);
            }
            result = likely[start];
        }

        /** All stands within n deeds, each as likely as it is with no deed left. */
        private void explore(int start, int n) {
            Arrays.fill(depth, NONE);
            size = 0;
            firstDeed = NONE;
            reach(start, 0);
            for (int i = 0; i < size && i < STANDS; i++) {
                int stand = order[i];
                if (depth[stand] < n && rungOf(stand) != rung) {
                    reachFrom(stand);
                }
            }
        }

        private void reachFrom(int stand) {
            int found = moves.gather(stand);
            for (int i = 0; i < found; i++) {
                reach(moves.ends[i], depth[stand] + 1);
                if (moves.deeds[i] == CLIMB) {
                    reach(slipped(stand, moves.ends[i]), depth[stand] + 1);
                }
            }
        }

        private void reach(int stand, int deeds) {
            if (depth[stand] == NONE && size < STANDS) {
                depth[stand] = deeds;
                likely[stand] = rungOf(stand) == rung ? 1 : 0;
                order[size] = stand;
                size++;
            }
        }

        private static int slipped(int stand, int climbed) {
            return standOf(rungOf(stand), thingsOf(stand), strengthOf(climbed));
        }

        private void reckonWithin(int deeds) {
            for (int i = 0; i < size && depth[order[i]] <= deeds; i++) {
                fresh[order[i]] = likeliest(order[i]);
            }
            long[] old = likely;
            likely = fresh;
            fresh = old;
        }

        /** The start is the first stand, and the last one that is reckoned with all deeds left. */
        private long likeliest(int stand) {
            firstDeed = NONE;
            if (rungOf(stand) == rung) {
                return whole;
            }
            long greatest = 0;
            int found = moves.gather(stand);
            for (int i = 0; i < found; i++) {
                int end = moves.ends[i];
                long v = 10 * likely[end];
                if (moves.deeds[i] == CLIMB) {
                    long fallen = likely[slipped(stand, end)];
                    v = cliff.slips * fallen + (10 - cliff.slips) * likely[end];
                }
                if (v > greatest) {
                    greatest = v;
                    firstDeed = moves.deeds[i];
                }
            }
            return greatest;
        }

        int numerator() {
            return (int) (result / commonDivisor(result, whole));
        }

        int denominator() {
            return (int) (whole / commonDivisor(result, whole));
        }

        private static long commonDivisor(long a, long b) {
            long x = b;
            long y = a;
            for (int i = 0; i < 100 && y != 0; i++) {
                long rest = x % y;
                x = y;
                y = rest;
            }
            return Math.max(1, x);
        }
    }

    /** Things let fall, each on a rung of its own. */
    private static final class Sharing {
        private static final int USES = 1 << TOP_LIMIT;

        private final Cliff cliff;
        /** How many of the things from one on can land while some rungs are taken. */
        private final int[] can;
        private int rungs = 0;

        /** The row must have (THINGS + 1) * USES places at least; one by stands has them. */
        Sharing(Cliff cliff, int[] row) {
            this.cliff = cliff;
            can = row;
        }

        void reckon(int rung, int set) {
            rungs = rung;
            for (int used = 0; used < USES; used++) {
                can[cliff.things * USES + used] = 0;
            }
            for (int thing = cliff.things - 1; thing >= 0; thing--) {
                for (int used = 0; used < 1 << rungs; used++) {
                    boolean told = (set >> thing & 1) != 0;
                    can[thing * USES + used] = told ? withThing(thing, used) : behind(thing, used);
                }
            }
        }

        private int behind(int thing, int used) {
            return can[(thing + 1) * USES + used];
        }

        private int withThing(int thing, int used) {
            int greatest = behind(thing, used);
            for (int r = 0; r < rungs; r++) {
                if (isFree(r, thing, used)) {
                    greatest = Math.max(greatest, 1 + behind(thing, used | 1 << r));
                }
            }
            return greatest;
        }

        private boolean isFree(int r, int thing, int used) {
            return (used >> r & 1) == 0 && cliff.holds(r, thing);
        }

        int landed() {
            return can[0];
        }

        int rungOfThing(int set, int wanted) {
            int used = 0;
            int r = NONE;
            for (int thing = 0; thing <= wanted; thing++) {
                r = (set >> thing & 1) != 0 ? firstRung(thing, used) : NONE;
                used |= r == NONE ? 0 : 1 << r;
            }
            return r;
        }

        private int firstRung(int thing, int used) {
            for (int r = 0; r < rungs; r++) {
                boolean free = isFree(r, thing, used);
                if (free && 1 + behind(thing, used | 1 << r) == can[thing * USES + used]) {
                    return r;
                }
            }
            return NONE;
        }
    }

    /** A row of numbers of one sort. */
    private static final class Tray {
        boolean missing = true;
        final long[] numbers = new long[TRAY_PLACES];
        int size = 0;
        private int sort = 0;

        void make(int newSort, int n) {
            missing = false;
            sort = newSort;
            size = n;
            Arrays.fill(numbers, 0);
        }

        long put(int i, long v) {
            switch (sort) {
                case 0: numbers[i] = (byte) v; break;
                case 1: numbers[i] = (short) v; break;
                case 2: numbers[i] = (int) v; break;
                default: numbers[i] = v; break;
            }
            return numbers[i];
        }

        /** A number as a deed; one that no deed can be is NONE, so that it fits an int. */
        int deedAt(int i) {
            long v = numbers[i];
            return v >= 0 && v < BLOW + WINDS ? (int) v : NONE;
        }
    }
}
