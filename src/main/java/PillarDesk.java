import java.util.Arrays;

/** A discount curve desk. What each call answers stands in the project's document, by numbered promises. */
public final class PillarDesk {
    public static final int NONE = -1;

    private static final int NO_SUCH = -2;
    private static final int BAD_NUMBER = -3;
    private static final int TOO_MANY = -4;
    private static final int NOT_NOW = -5;
    private static final int MISSING = -6;
    private static final int NO_PLACE = -7;
    private static final int WHY_NOT = -10;
    private static final int TEXT_FAULT = -30;
    private static final long FAR = -9_000_000_000_000_000_000L;

    private static final long UNIT = 1_000_000_000L;
    private static final long BASE = 3_600_000L;
    private static final int TEXT_MOST = 900;
    private static final int HOLIDAYS_MOST = 12;
    private static final int INPUTS_MOST = 8;
    private static final int FLOWS_MOST = 10;
    private static final int PERIODS_MOST = 34;
    private static final int PILLARS_MOST = 9;
    private static final int PLACES_MOST = 40;
    private static final int UNDO_MOST = 10;
    private static final int SHIFTS = 10;
    private static final int LOTS = 10;
    private static final int DRAWS_MOST = 3;
    private static final int RATE_MOST = 999;
    private static final int DAY_TOLD_MOST = 999;
    private static final int DAY_MOST = 9999;
    private static final long TOLD_DAY = 100_000_000L;
    private static final long TOLD_MOST = 999_999_999_999L;

    private static final int DEPOSIT = 0;
    private static final int FORWARD = 1;
    private static final int SWAP = 2;

    private final byte[] tape = new byte[TEXT_MOST];
    private int tapeLength;
    private int lastFault;
    private int lastPlace = NONE;
    private final Plan plan = new Plan();
    private final Plan draft = new Plan();
    private final Reader reader = new Reader(draft);
    private final Plan[] images = new Plan[2];
    private final Tray[] trays = new Tray[4];
    private final Past past = new Past();
    private final Stand before = new Stand();
    private final Stand tried = new Stand();
    private final Schedule dates = new Schedule(plan);
    private final Curve now = new Curve(plan, dates);
    private final Curve trial = new Curve(plan, dates);
    private final Hedge hedge = new Hedge(plan, dates, now);
    private final Odds odds = new Odds(plan, now, trial);
    private final int[] told = new int[SHIFTS * PILLARS_MOST];
    private boolean stale = true;
    private int seedNow;

    public PillarDesk() {
        for (int k = 0; k < trays.length; k++) {
            trays[k] = new Tray();
        }
        dates.lay();
    }

    // ---- the desk

    public int feed(int a, int b, int c, int d, int e) {
        if (tapeLength + 20 > TEXT_MOST) {
            return NOT_NOW;
        }
        feedWord(a);
        feedWord(b);
        feedWord(c);
        feedWord(d);
        feedWord(e);
        return tapeLength;
    }

    private void feedWord(int word) {
        for (int bits = 24; bits >= 0 && tapeLength < TEXT_MOST; bits -= 8) {
            tape[tapeLength] = (byte) (word >>> bits);
            tapeLength++;
        }
    }

    public int desk(int n) {
        if (n < 0 || n > tapeLength) {
            return BAD_NUMBER;
        }
        tapeLength = 0;
        reader.read(tape, n);
        lastFault = reader.mistake;
        lastPlace = reader.mistakePlace;
        if (lastFault != 0) {
            return TEXT_FAULT - lastFault;
        }
        plan.copyFrom(draft);
        past.clear();
        dates.lay();
        stale = true;
        return plan.lines;
    }

    public int fault(int what) {
        switch (what) {
            case 0: return lastFault;
            case 1: return lastPlace;
            default: return NONE;
        }
    }

    public int input(int i, int what) {
        if (!plan.hasInput(i)) {
            return NO_SUCH;
        }
        switch (what) {
            case 0: return plan.kinds[i];
            case 1: return plan.starts[i];
            case 2: return plan.ends[i];
            case 3: return dates.startsOff[i];
            case 4: return dates.endsOff[i];
            case 5: return plan.stand.rates[i];
            case 6: return solvedNow().counted[i];
            case 7: return plan.everys[i];
            case 8: return dates.madeBy[i] == NONE ? 1 : 0;
            default: return NO_SUCH;
        }
    }

    public long flow(int k, int what) {
        if (!plan.hasFlow(k) || what < 0 || what > 1) {
            return FAR + NO_SUCH;
        }
        return what == 0 ? plan.flowDays[k] : plan.stand.amounts[k];
    }

    // ---- days

    public int open(int d) {
        if (d < 0 || d > DAY_MOST) {
            return BAD_NUMBER;
        }
        return dates.calendar.isOpen(d) ? 1 : 0;
    }

    public int off(int d) {
        return d < 0 || d > DAY_MOST ? BAD_NUMBER : dates.calendar.putOff(d);
    }

    public int opens(int a, int b) {
        if (a < 0 || a > DAY_TOLD_MOST || b < a || b > DAY_TOLD_MOST) {
            return BAD_NUMBER;
        }
        int found = 0;
        for (int d = a; d < b; d++) {
            if (dates.calendar.isOpen(d)) {
                found++;
            }
        }
        return found;
    }

    public int business(int d, int n) {
        if (d < 0 || d > DAY_TOLD_MOST || n < 1 || n > 99) {
            return BAD_NUMBER;
        }
        int found = 0;
        for (int more = 1; more <= 999; more++) {
            if (dates.calendar.isOpen(d + more)) {
                found++;
            }
            if (found == n) {
                return d + more;
            }
        }
        return NONE;
    }

    public int period(int i, int k) {
        if (!plan.hasInput(i) || plan.kinds[i] != SWAP) {
            return NO_SUCH;
        }
        if (k < 0) {
            return BAD_NUMBER;
        }
        return k < dates.periodCounts[i] ? dates.periodEnd(i, k) : NONE;
    }

    // ---- deeds

    public int bump(int i, int n) {
        before.copyFrom(plan.stand);
        int why = plan.doBump(plan.stand, i, n);
        if (why != 0) {
            return WHY_NOT - why;
        }
        remember(1);
        return plan.hasInput(i) ? plan.stand.rates[i] : NO_SUCH;
    }

    public int shift(int n) {
        before.copyFrom(plan.stand);
        int why = plan.doShift(plan.stand, n);
        if (why != 0) {
            return WHY_NOT - why;
        }
        remember(1);
        return before.shiftNow;
    }

    public int amount(int k, int n) {
        before.copyFrom(plan.stand);
        int why = plan.doAmount(plan.stand, k, n);
        if (why != 0) {
            return WHY_NOT - why;
        }
        remember(1);
        return 0;
    }

    /** A call that did nothing leaves no step to undo. */
    private void remember(int done) {
        if (done > 0) {
            past.push(before);
            stale = true;
        }
    }

    public int undo(int n) {
        if (n < 1 || n > UNDO_MOST || n > past.size) {
            return BAD_NUMBER;
        }
        past.back(n, plan.stand);
        stale = true;
        return past.size;
    }

    public int judge(int tray, int what) {
        if (noTray(tray) || what < 0 || what > 3) {
            return NO_SUCH;
        }
        if (trays[tray].isMissing()) {
            return MISSING;
        }
        tried.copyFrom(plan.stand);
        int done = doAll(trays[tray], tried);
        switch (what) {
            case 0: return done < trays[tray].size ? done : NONE;
            case 1: return done < trays[tray].size ? plan.doDeed(tried, trays[tray].values[done]) : 0;
            case 2: return plan.rateSum(tried);
            default: return lastFactorTried();
        }
    }

    private int doAll(Tray tray, Stand stand) {
        int done = 0;
        for (int k = 0; k < tray.size; k++) {
            if (plan.doDeed(stand, tray.values[k]) != 0) {
                break;
            }
            done++;
        }
        return done;
    }

    private int lastFactorTried() {
        trial.countRates(tried, tried.shiftNow);
        trial.solve(1);
        return trial.lastFactor() / 1000;
    }

    public int perform(int tray) {
        if (noTray(tray)) {
            return NO_SUCH;
        }
        if (trays[tray].isMissing()) {
            return MISSING;
        }
        before.copyFrom(plan.stand);
        int done = doAll(trays[tray], plan.stand);
        remember(done);
        return done;
    }

    public int week(int seed, int times) {
        if (times < 1 || times > 40) {
            return BAD_NUMBER;
        }
        before.copyFrom(plan.stand);
        seedNow = seed;
        int done = 0;
        for (int k = 0; k < times; k++) {
            if (plan.doDeed(plan.stand, drawnDeed()) == 0) {
                done++;
            }
        }
        remember(done);
        return done;
    }

    private int drawn() {
        seedNow = 1103515245 * seedNow + 12345;
        return seedNow >>> 16;
    }

    private int drawnDeed() {
        int sort = drawn() % 4;
        if (sort == 0) {
            return 10 + drawn() % 10;
        }
        if (sort == 3) {
            int flow = drawn() % 10;
            return 10000 + 2000 * flow + drawn() % 1999;
        }
        int input = drawn() % 8;
        return 1000 + 1000 * input + drawn() % 199;
    }

    // ---- the curve

    /** Deeds only mark the curve as stale, so that a row of them costs one solving. */
    private Curve solvedNow() {
        if (stale) {
            now.countRates(plan.stand, plan.stand.shiftNow);
            now.solve(1);
            stale = false;
        }
        return now;
    }

    /** The trial curve becomes that of now with the counting rate of one input n more. */
    private Curve bumpedTrial(int i, int n) {
        trial.copyFrom(solvedNow());
        if (plan.hasInput(i)) {
            trial.counted[i] = inRateBounds(now.counted[i] + n);
            if (dates.madeBy[i] != NONE) {
                trial.solve(dates.madeBy[i]);
            }
        }
        return trial;
    }

    private static int inRateBounds(int rate) {
        return Math.max(0, Math.min(RATE_MOST, rate));
    }

    public int pillars() {
        return dates.pillarCount;
    }

    public int pillar(int k, int what) {
        if (!dates.hasPillar(k)) {
            return NO_SUCH;
        }
        switch (what) {
            case 0: return dates.pillarDays[k];
            case 1: return solvedNow().factors[k];
            case 2: return dates.pillarInputs[k];
            default: return NO_SUCH;
        }
    }

    public int factor(int d) {
        return d < 0 || d > DAY_MOST ? BAD_NUMBER : solvedNow().factorAt(d);
    }

    public int forward(int a, int b) {
        if (a < 0 || b <= a || b > DAY_MOST) {
            return BAD_NUMBER;
        }
        return solvedNow().rateBetween(a, b);
    }

    public int implied(int i) {
        if (!plan.hasInput(i)) {
            return NO_SUCH;
        }
        if (dates.startsOff[i] >= dates.endsOff[i]) {
            return NOT_NOW;
        }
        if (plan.kinds[i] == SWAP) {
            return solvedNow().swapRate(i);
        }
        return solvedNow().rateBetween(dates.startsOff[i], dates.endsOff[i]);
    }

    public int sound() {
        Curve curve = solvedNow();
        for (int k = 1; k < dates.pillarCount; k++) {
            if (curve.factors[k] > curve.factors[k - 1]) {
                return 0;
            }
        }
        return 1;
    }

    public int falls(int i, int d) {
        if (!plan.hasInput(i)) {
            return NO_SUCH;
        }
        if (d < 0 || d > DAY_MOST) {
            return BAD_NUMBER;
        }
        return solvedNow().factorAt(d) - bumpedTrial(i, 1).factorAt(d);
    }

    public int moves(int i) {
        if (!plan.hasInput(i)) {
            return NO_SUCH;
        }
        Curve other = bumpedTrial(i, 1);
        int bits = 0;
        for (int k = 0; k < dates.pillarCount; k++) {
            if (other.factors[k] != now.factors[k]) {
                bits |= 1 << k;
            }
        }
        return bits;
    }

    // ---- the book

    public long worth() {
        return solvedNow().bookWorth();
    }

    public long move(int i) {
        if (!plan.hasInput(i)) {
            return FAR + NO_SUCH;
        }
        return bumpedTrial(i, 1).bookWorth() - now.bookWorth();
    }

    public long bumped(int i, int n) {
        if (!plan.hasInput(i)) {
            return FAR + NO_SUCH;
        }
        if (n < -999 || n > 999) {
            return FAR + BAD_NUMBER;
        }
        return bumpedTrial(i, n).bookWorth();
    }

    public int mover() {
        int best = NONE;
        long most = -1;
        for (int i = 0; i < plan.inputCount; i++) {
            long size = Math.abs(bumpedTrial(i, 1).bookWorth() - now.bookWorth());
            if (size > most) {
                most = size;
                best = i;
            }
        }
        return best;
    }

    public int breaks(int i) {
        if (!plan.hasInput(i)) {
            return NO_SUCH;
        }
        long worthNow = solvedNow().bookWorth();
        if (worthNow == 0 || dates.madeBy[i] == NONE) {
            return NONE;
        }
        // Beyond the greatest rate nothing moves any more.
        int most = RATE_MOST - now.counted[i];
        for (int n = 1; n <= most; n++) {
            long other = bumpedTrial(i, n).bookWorth();
            if (other == 0 || other > 0 != worthNow > 0) {
                return n;
            }
        }
        return NONE;
    }

    public long hang(int k) {
        return dates.hasPillar(k) ? hedge.bookHang(k) : FAR + NO_SUCH;
    }

    public long flat(int k) {
        if (k < 1 || !dates.hasPillar(k)) {
            return FAR + NO_SUCH;
        }
        solvedNow();
        hedge.flatten();
        return hedge.taken[k];
    }

    public long left(int k) {
        if (k < 1 || !dates.hasPillar(k)) {
            return FAR + NO_SUCH;
        }
        solvedNow();
        hedge.flatten();
        return hedge.hanging[k];
    }

    // ---- told

    public int shifts(int tray) {
        int refusal = toldRefusal(tray);
        return refusal != 0 ? refusal : shiftsTold(trays[tray]);
    }

    private int toldRefusal(int tray) {
        if (noTray(tray)) {
            return NO_SUCH;
        }
        if (trays[tray].isMissing()) {
            return MISSING;
        }
        if (trays[tray].size < 1 || trays[tray].size > 8) {
            return TOO_MANY;
        }
        for (int k = 0; k < trays[tray].size; k++) {
            if (trays[tray].values[k] < 0 || trays[tray].values[k] > TOLD_MOST) {
                return BAD_NUMBER;
            }
        }
        return 0;
    }

    /** Keeps the factors of each shift at the pillars too: ask() sorts the shifts by them. */
    private int shiftsTold(Tray tray) {
        int bits = 0;
        for (int s = 0; s < SHIFTS; s++) {
            trial.countRates(plan.stand, s);
            trial.solve(1);
            for (int k = 0; k < dates.pillarCount && k < PILLARS_MOST; k++) {
                told[s * PILLARS_MOST + k] = trial.factors[k] / 100;
            }
            if (trialIsTold(tray)) {
                bits |= 1 << s;
            }
        }
        return bits;
    }

    private boolean trialIsTold(Tray tray) {
        for (int k = 0; k < tray.size; k++) {
            int day = (int) (tray.values[k] / TOLD_DAY);
            if (trial.factorAt(day) / 100 != tray.values[k] % TOLD_DAY) {
                return false;
            }
        }
        return true;
    }

    public int ask(int tray) {
        int refusal = toldRefusal(tray);
        if (refusal != 0) {
            return refusal;
        }
        int bits = shiftsTold(trays[tray]);
        if (bits == 0) {
            return NONE;
        }
        int best = 0;
        int least = SHIFTS + 1;
        for (int k = 0; k < dates.pillarCount && k < PILLARS_MOST; k++) {
            int most = mostAlike(bits, k);
            if (most < least) {
                least = most;
                best = dates.pillarDays[k];
            }
        }
        return best;
    }

    private int mostAlike(int bits, int k) {
        int most = 0;
        for (int s = 0; s < SHIFTS; s++) {
            int alike = 0;
            for (int t = 0; t < SHIFTS; t++) {
                boolean both = (bits >> s & 1) == 1 && (bits >> t & 1) == 1;
                if (both && told[s * PILLARS_MOST + k] == told[t * PILLARS_MOST + k]) {
                    alike++;
                }
            }
            most = Math.max(most, alike);
        }
        return most;
    }

    // ---- chances

    public int chance(int b, long k, int n, int what) {
        if (what < 0 || what > 1) {
            return NO_SUCH;
        }
        if (b < -99 || b > 99 || k < -1_000_000 || k > 1_000_000 || n < 0 || n > DRAWS_MOST) {
            return BAD_NUMBER;
        }
        solvedNow();
        odds.tally(b, n, UNIT * k);
        return (int) Odds.inLowestTerms(odds.waysBelow, odds.waysInAll, what);
    }

    public long mean(int b, int n, int what) {
        if (what < 0 || what > 1) {
            return FAR + NO_SUCH;
        }
        if (b < -99 || b > 99 || n < 0 || n > DRAWS_MOST) {
            return FAR + BAD_NUMBER;
        }
        solvedNow();
        odds.tally(b, n, 0);
        return Odds.inLowestTerms(odds.worthSum, odds.waysInAll, what);
    }

    // ---- trays, images

    private boolean noTray(int tray) {
        return tray < 0 || tray >= trays.length;
    }

    public int numbers(int tray, int sort, int n) {
        if (noTray(tray) || sort < 0 || sort > 3) {
            return NO_SUCH;
        }
        if (n < 0 || n > PLACES_MOST) {
            return BAD_NUMBER;
        }
        trays[tray].renew(sort, n);
        return 0;
    }

    public long write(int tray, int i, long v) {
        if (noTray(tray)) {
            return NO_SUCH;
        }
        if (trays[tray].isMissing()) {
            return MISSING;
        }
        if (i < 0 || i >= trays[tray].size) {
            return NO_PLACE;
        }
        trays[tray].put(i, v);
        return trays[tray].values[i];
    }

    public int lists(int tray) {
        if (noTray(tray)) {
            return NO_SUCH;
        }
        if (trays[tray].isMissing()) {
            return MISSING;
        }
        int many = Math.min(dates.pillarCount, trays[tray].size);
        Curve curve = solvedNow();
        for (int k = 0; k < many; k++) {
            trays[tray].put(k, curve.factors[k]);
        }
        return many;
    }

    public int image(int i) {
        if (i < 0 || i >= images.length) {
            return NO_SUCH;
        }
        if (images[i] == null) {
            images[i] = new Plan();
        }
        images[i].copyFrom(plan);
        return 0;
    }

    public int restore(int i) {
        if (i < 0 || i >= images.length) {
            return NO_SUCH;
        }
        if (images[i] == null) {
            return NOT_NOW;
        }
        plan.copyFrom(images[i]);
        past.clear();
        dates.lay();
        stale = true;
        return 0;
    }

    public int count(int what) {
        switch (what) {
            case 0: return plan.inputCount;
            case 1: return plan.flowCount;
            case 2: return plan.holidayCount;
            case 3: return plan.first;
            case 4: return plan.curve;
            case 5: return plan.stand.shiftNow;
            case 6: return plan.rateSum(plan.stand);
            case 7: return past.size;
            case 8: return tapeLength;
            case 9: return plan.lines;
            default: return NONE;
        }
    }

    /** What deeds change and undoing brings back. */
    private static final class Stand {
        final int[] rates = new int[INPUTS_MOST];
        final int[] amounts = new int[FLOWS_MOST];
        int shiftNow;

        void copyFrom(Stand other) {
            System.arraycopy(other.rates, 0, rates, 0, rates.length);
            System.arraycopy(other.amounts, 0, amounts, 0, amounts.length);
            shiftNow = other.shiftNow;
        }
    }

    /** The stands ahead of the latest calls; a ring, so that the eldest gives its place to the newest. */
    private static final class Past {
        final Stand[] stands = new Stand[UNDO_MOST];
        int next;
        int size;

        Past() {
            for (int k = 0; k < stands.length; k++) {
                stands[k] = new Stand();
            }
        }

        void clear() {
            size = 0;
        }

        void push(Stand stand) {
            stands[next].copyFrom(stand);
            next = (next + 1) % UNDO_MOST;
            size = Math.min(UNDO_MOST, size + 1);
        }

        void back(int n, Stand target) {
            next = Math.floorMod(next - n, UNDO_MOST);
            size = Math.max(0, size - n);
            target.copyFrom(stands[next]);
        }
    }

    /** Numbers of one sort, kept as they are after the cut. */
    private static final class Tray {
        final long[] values = new long[PLACES_MOST];
        int sort;
        int size = NONE;

        boolean isMissing() {
            return size == NONE;
        }

        void renew(int newSort, int newSize) {
            sort = newSort;
            size = newSize;
            Arrays.fill(values, 0L);
        }

        void put(int i, long v) {
            switch (sort) {
                case 0: values[i] = (byte) v; break;
                case 1: values[i] = (short) v; break;
                case 2: values[i] = (int) v; break;
                default: values[i] = v; break;
            }
        }
    }

    /**
     * Both laws as rows of steps for a stack. An if takes its truth and both sums from the stack: no step can fail,
     * so the sum that isn't wanted may be reckoned too, and no step need jump.
     */
    private static final class Laws {
        static final int VARIABLE = 1000;
        static final int ADD = 2000;
        static final int SUBTRACT = 2001;
        static final int MULTIPLY = 2002;
        static final int EQUAL = 2003;
        static final int LESS = 2004;
        static final int MORE = 2005;
        static final int AND = 2006;
        static final int OR = 2007;
        static final int NOT = 2008;
        static final int SELECT = 2009;
        static final int KEPT = 1_000_000;

        final int[] steps = new int[TEXT_MOST];
        final int[] variables = new int[5];
        final int[] stack = new int[64];
        int length;
        int ratesFrom;
        int ratesTo;
        int opensFrom;
        int opensTo;

        void clear() {
            length = 0;
            ratesFrom = 0;
            ratesTo = 0;
            opensFrom = 0;
            opensTo = 0;
        }

        void copyFrom(Laws other) {
            System.arraycopy(other.steps, 0, steps, 0, steps.length);
            length = other.length;
            ratesFrom = other.ratesFrom;
            ratesTo = other.ratesTo;
            opensFrom = other.opensFrom;
            opensTo = other.opensTo;
        }

        void add(int step) {
            if (length < steps.length) {
                steps[length] = step;
                length++;
            }
        }

        boolean hasRates() {
            return ratesTo > ratesFrom;
        }

        boolean hasOpens() {
            return opensTo > opensFrom;
        }

        int value(int from, int to) {
            int top = 0;
            for (int at = from; at < to && at < steps.length; at++) {
                int step = steps[at];
                if (step < ADD) {
                    if (top >= stack.length) {
                        return 0;
                    }
                    stack[top] = step < VARIABLE ? step : variables[Math.min(step - VARIABLE, variables.length - 1)];
                    top++;
                } else if (step == NOT) {
                    if (top >= 1) {
                        stack[top - 1] = 1 - stack[top - 1];
                    }
                } else if (step == SELECT) {
                    if (top >= 3) {
                        top -= 2;
                        stack[top - 1] = stack[top - 1] != 0 ? stack[top] : stack[top + 1];
                    }
                } else if (top >= 2) {
                    top--;
                    stack[top - 1] = joined(step, stack[top - 1], stack[top]);
                }
            }
            return top > 0 ? stack[0] : 0;
        }

        private static int joined(int step, long a, long b) {
            long all = 0;
            switch (step) {
                case ADD: all = a + b; break;
                case SUBTRACT: all = a - b; break;
                case MULTIPLY: all = a * b; break;
                case EQUAL: return a == b ? 1 : 0;
                case LESS: return a < b ? 1 : 0;
                case MORE: return a > b ? 1 : 0;
                case AND: return a != 0 && b != 0 ? 1 : 0;
                case OR: return a != 0 || b != 0 ? 1 : 0;
                default: break;
            }
            return (int) (all > KEPT ? KEPT : all < -KEPT ? -KEPT : all);
        }
    }

    /** THE DESK as its text tells it, with the stand of what deeds change. */
    private static final class Plan {
        int first;
        int curve;
        int lines;
        int holidayCount;
        final int[] holidays = new int[HOLIDAYS_MOST];
        int inputCount;
        final int[] kinds = new int[INPUTS_MOST];
        final int[] starts = new int[INPUTS_MOST];
        final int[] ends = new int[INPUTS_MOST];
        final int[] everys = new int[INPUTS_MOST];
        int flowCount;
        final int[] flowDays = new int[FLOWS_MOST];
        final Laws laws = new Laws();
        final Stand stand = new Stand();

        void clear() {
            first = 0;
            curve = 0;
            lines = 0;
            holidayCount = 0;
            inputCount = 0;
            flowCount = 0;
            laws.clear();
        }

        void copyFrom(Plan other) {
            first = other.first;
            curve = other.curve;
            lines = other.lines;
            holidayCount = other.holidayCount;
            System.arraycopy(other.holidays, 0, holidays, 0, holidays.length);
            inputCount = other.inputCount;
            System.arraycopy(other.kinds, 0, kinds, 0, kinds.length);
            System.arraycopy(other.starts, 0, starts, 0, starts.length);
            System.arraycopy(other.ends, 0, ends, 0, ends.length);
            System.arraycopy(other.everys, 0, everys, 0, everys.length);
            flowCount = other.flowCount;
            System.arraycopy(other.flowDays, 0, flowDays, 0, flowDays.length);
            laws.copyFrom(other.laws);
            stand.copyFrom(other.stand);
        }

        boolean hasInput(int i) {
            return i >= 0 && i < inputCount && i < INPUTS_MOST;
        }

        boolean hasFlow(int k) {
            return k >= 0 && k < flowCount && k < FLOWS_MOST;
        }

        boolean isHoliday(int day) {
            for (int k = 0; k < holidayCount && k < HOLIDAYS_MOST; k++) {
                if (holidays[k] == day) {
                    return true;
                }
            }
            return false;
        }

        int rateSum(Stand which) {
            int sum = 0;
            for (int i = 0; i < inputCount && i < INPUTS_MOST; i++) {
                sum += which.rates[i];
            }
            return sum;
        }

        /** Why it can't be, or 0 and it is done; so all the deeds below. */
        int doBump(Stand target, int i, int n) {
            if (!hasInput(i) || n < -99 || n > 99) {
                return 1;
            }
            int rate = target.rates[i] + n;
            if (rate < 0 || rate > RATE_MOST) {
                return 2;
            }
            target.rates[i] = rate;
            return 0;
        }

        int doShift(Stand target, int n) {
            if (n < 0 || n >= SHIFTS) {
                return 1;
            }
            target.shiftNow = n;
            return 0;
        }

        int doAmount(Stand target, int k, int n) {
            if (!hasFlow(k) || n < -999 || n > 999) {
                return 1;
            }
            target.amounts[k] = n;
            return 0;
        }

        int doDeed(Stand target, long v) {
            if (v >= 10 && v <= 19) {
                return doShift(target, (int) v - 10);
            }
            if (v >= 1000 && v <= 8999) {
                return doBump(target, (int) v / 1000 - 1, (int) v % 1000 - 99);
            }
            if (v >= 10000 && v <= 29999) {
                int rest = (int) v - 10000;
                return doAmount(target, rest / 2000, rest % 2000 - 999);
            }
            return 1;
        }
    }

    /** Reads a text into a plan. The first fault stops it: from then on no token can stand anywhere. */
    private static final class Reader {
        static final int END = 0;
        static final int WORD = 1;
        static final int NUMBER = 2;
        static final int STOPPED = 3;
        static final int NO_TOKEN = 1;
        static final int NOT_THERE = 2;
        static final int OUT_OF_BOUNDS = 3;
        static final int ONE_TOO_MANY = 4;
        static final int DEPTH_MOST = 6;
        static final String SIGNS = ";:+-*()[]=<>";

        final Plan target;
        byte[] text = new byte[0];
        int length;
        int place;
        /** END, WORD, NUMBER, STOPPED, or the sign itself. */
        int token;
        int tokenPlace;
        int tokenValue;
        int mistake;
        int mistakePlace = NONE;
        boolean ratesLaw;

        Reader(Plan target) {
            this.target = target;
        }

        void read(byte[] bytes, int n) {
            text = bytes;
            length = Math.max(0, Math.min(n, bytes.length));
            place = 0;
            mistake = 0;
            mistakePlace = NONE;
            target.clear();
            next();
            readHead();
            for (int k = 0; k < TEXT_MOST && token != END && token != STOPPED; k++) {
                readLine();
            }
        }

        private void fail(int why) {
            if (mistake == 0) {
                mistake = why;
                mistakePlace = tokenPlace;
            }
            token = STOPPED;
        }

        private int byteAt(int at) {
            return at >= 0 && at < length ? text[at] & 255 : 0;
        }

        private void next() {
            while (place < length && (byteAt(place) == 32 || byteAt(place) == 10)) {
                place++;
            }
            tokenPlace = place;
            int sign = byteAt(place);
            if (mistake != 0) {
                token = STOPPED;
            } else if (place >= length) {
                token = END;
            } else if (isLetter(sign)) {
                nextWord();
            } else if (isDigit(sign)) {
                nextNumber();
            } else if (sign < 128 && SIGNS.indexOf((char) sign) >= 0) {
                token = sign;
                place++;
            } else {
                fail(NO_TOKEN);
            }
        }

        private static boolean isLetter(int sign) {
            return sign >= 'a' && sign <= 'z';
        }

        private static boolean isDigit(int sign) {
            return sign >= '0' && sign <= '9';
        }

        private void nextWord() {
            token = WORD;
            while (place < length && isLetter(byteAt(place))) {
                place++;
            }
        }

        private void nextNumber() {
            token = NUMBER;
            tokenValue = 0;
            while (place < length && isDigit(byteAt(place))) {
                if (place - tokenPlace >= 3) {
                    fail(NO_TOKEN);
                    return;
                }
                tokenValue = tokenValue * 10 + byteAt(place) - '0';
                place++;
            }
        }

        private boolean isWord(String word) {
            if (token != WORD || place - tokenPlace != word.length()) {
                return false;
            }
            for (int k = 0; k < word.length(); k++) {
                if (byteAt(tokenPlace + k) != word.charAt(k)) {
                    return false;
                }
            }
            return true;
        }

        private void takeWord(String word) {
            if (isWord(word)) {
                next();
            } else {
                fail(NOT_THERE);
            }
        }

        private void takeSign(char sign) {
            if (token == sign) {
                next();
            } else {
                fail(NOT_THERE);
            }
        }

        private int takeNumber(int least, int most) {
            int value = tokenValue;
            if (token != NUMBER) {
                fail(NOT_THERE);
            } else if (value < least || value > most) {
                fail(OUT_OF_BOUNDS);
            } else {
                next();
            }
            return value;
        }

        private void readHead() {
            takeWord("desk");
            takeWord("first");
            target.first = takeNumber(0, 6);
            takeWord("curve");
            target.curve = takeNumber(0, 1);
            takeWord("shift");
            target.stand.shiftNow = takeNumber(0, SHIFTS - 1);
            takeSign(';');
            target.lines = 1;
        }

        private void readLine() {
            if (isWord("holiday")) {
                readHoliday();
            } else if (isWord("deposit")) {
                readInput(DEPOSIT);
            } else if (isWord("forward")) {
                readInput(FORWARD);
            } else if (isWord("swap")) {
                readInput(SWAP);
            } else if (isWord("flow")) {
                readFlow();
            } else if (isWord("rates")) {
                readRates();
            } else if (isWord("opens")) {
                readOpens();
            } else {
                fail(NOT_THERE);
            }
            takeSign(';');
            target.lines++;
        }

        private void readHoliday() {
            int k = target.holidayCount;
            if (k >= HOLIDAYS_MOST) {
                fail(ONE_TOO_MANY);
                return;
            }
            next();
            target.holidays[k] = takeNumber(0, DAY_TOLD_MOST);
            target.holidayCount = k + 1;
        }

        private void readInput(int kind) {
            int i = target.inputCount;
            if (i >= INPUTS_MOST) {
                fail(ONE_TOO_MANY);
                return;
            }
            next();
            target.kinds[i] = kind;
            target.starts[i] = kind == FORWARD ? takeNumber(0, DAY_TOLD_MOST - 1) : 0;
            target.ends[i] = takeNumber(target.starts[i] + 1, DAY_TOLD_MOST);
            target.everys[i] = 0;
            if (kind == SWAP) {
                takeWord("every");
                target.everys[i] = takeNumber(30, 999);
            }
            takeWord("rate");
            target.stand.rates[i] = takeNumber(0, RATE_MOST);
            target.inputCount = i + 1;
        }

        private void readFlow() {
            int k = target.flowCount;
            if (k >= FLOWS_MOST) {
                fail(ONE_TOO_MANY);
                return;
            }
            next();
            target.flowDays[k] = takeNumber(0, DAY_TOLD_MOST);
            boolean minus = isWord("minus");
            takeWord(minus ? "minus" : "plus");
            int size = takeNumber(0, 999);
            target.stand.amounts[k] = minus ? -size : size;
            target.flowCount = k + 1;
        }

        private void readRates() {
            next();
            takeSign(':');
            ratesLaw = true;
            target.laws.ratesFrom = target.laws.length;
            readSum(0);
            target.laws.ratesTo = target.laws.length;
        }

        private void readOpens() {
            next();
            takeSign(':');
            ratesLaw = false;
            target.laws.opensFrom = target.laws.length;
            readTruth(0);
            target.laws.opensTo = target.laws.length;
        }

        private void readSum(int depth) {
            readTerm(depth);
            for (int k = 0; k < TEXT_MOST && (token == '+' || token == '-'); k++) {
                int step = token == '+' ? Laws.ADD : Laws.SUBTRACT;
                next();
                readTerm(depth);
                target.laws.add(step);
            }
        }

        private void readTerm(int depth) {
            readAtom(depth);
            for (int k = 0; k < TEXT_MOST && token == '*'; k++) {
                next();
                readAtom(depth);
                target.laws.add(Laws.MULTIPLY);
            }
        }

        private void readAtom(int depth) {
            if (token == NUMBER) {
                target.laws.add(tokenValue);
                next();
            } else if (token == '(') {
                goDeeper(depth);
                if (token != STOPPED) {
                    readSum(depth + 1);
                    takeSign(')');
                }
            } else if (isWord("if")) {
                goDeeper(depth);
                if (token != STOPPED) {
                    readChoice(depth + 1);
                }
            } else {
                readVariable();
            }
        }

        /** Steps over a token that nests, if there may be one more. */
        private void goDeeper(int depth) {
            if (depth >= DEPTH_MOST) {
                fail(ONE_TOO_MANY);
            } else {
                next();
            }
        }

        private void readChoice(int depth) {
            readTruth(depth);
            takeWord("then");
            readSum(depth);
            takeWord("else");
            readSum(depth);
            takeWord("end");
            target.laws.add(Laws.SELECT);
        }

        private void readVariable() {
            int variable = ratesLaw ? ratesVariable() : opensVariable();
            if (variable == NONE) {
                fail(NOT_THERE);
            } else {
                target.laws.add(Laws.VARIABLE + variable);
                next();
            }
        }

        private int ratesVariable() {
            if (isWord("told")) {
                return 0;
            }
            if (isWord("days")) {
                return 1;
            }
            if (isWord("kind")) {
                return 2;
            }
            if (isWord("shift")) {
                return 3;
            }
            return isWord("input") ? 4 : NONE;
        }

        private int opensVariable() {
            if (isWord("week")) {
                return 0;
            }
            if (isWord("holiday")) {
                return 1;
            }
            return isWord("date") ? 2 : NONE;
        }

        private void readTruth(int depth) {
            readBoth(depth);
            for (int k = 0; k < TEXT_MOST && isWord("or"); k++) {
                next();
                readBoth(depth);
                target.laws.add(Laws.OR);
            }
        }

        private void readBoth(int depth) {
            readUnit(depth);
            for (int k = 0; k < TEXT_MOST && isWord("and"); k++) {
                next();
                readUnit(depth);
                target.laws.add(Laws.AND);
            }
        }

        private void readUnit(int depth) {
            if (isWord("not")) {
                goDeeper(depth);
                if (token != STOPPED) {
                    readUnit(depth + 1);
                    target.laws.add(Laws.NOT);
                }
            } else if (token == '[') {
                goDeeper(depth);
                if (token != STOPPED) {
                    readTruth(depth + 1);
                    takeSign(']');
                }
            } else {
                readComparison(depth);
            }
        }

        private void readComparison(int depth) {
            readSum(depth);
            int step = token == '=' ? Laws.EQUAL : token == '<' ? Laws.LESS : token == '>' ? Laws.MORE : NONE;
            if (step == NONE) {
                fail(NOT_THERE);
                return;
            }
            next();
            readSum(depth);
            target.laws.add(step);
        }
    }

    /** Which days are open. A law may be long, so the days that are asked for often are judged once a desk. */
    private static final class Calendar {
        static final int PUT_OFF_MOST = 30;
        static final int SHUT = 1;
        static final int OPEN = 2;

        final Plan plan;
        final byte[] known = new byte[2048];

        Calendar(Plan plan) {
            this.plan = plan;
        }

        void forget() {
            Arrays.fill(known, (byte) 0);
        }

        boolean isOpen(int day) {
            boolean kept = day >= 0 && day < known.length;
            if (kept && known[day] != 0) {
                return known[day] == OPEN;
            }
            boolean open = isOpenByRule(day);
            if (kept) {
                known[day] = (byte) (open ? OPEN : SHUT);
            }
            return open;
        }

        private boolean isOpenByRule(int day) {
            int week = Math.floorMod(plan.first + day, 7);
            boolean holiday = plan.isHoliday(day);
            Laws laws = plan.laws;
            if (!laws.hasOpens()) {
                return week < 5 && !holiday;
            }
            laws.variables[0] = week;
            laws.variables[1] = holiday ? 1 : 0;
            laws.variables[2] = day;
            return laws.value(laws.opensFrom, laws.opensTo) != 0;
        }

        int putOff(int day) {
            for (int more = 0; more <= PUT_OFF_MOST; more++) {
                if (isOpen(day + more)) {
                    return day + more;
                }
            }
            return day;
        }
    }

    /** The days of all inputs, put off, and which of them make pillars: no rate has a say in these. */
    private static final class Schedule {
        final Plan plan;
        final Calendar calendar;
        final int[] startsOff = new int[INPUTS_MOST];
        final int[] endsOff = new int[INPUTS_MOST];
        final int[] periodCounts = new int[INPUTS_MOST];
        final int[] periodEnds = new int[INPUTS_MOST * PERIODS_MOST];
        /** The pillar that an input makes, NONE if it is unmet. */
        final int[] madeBy = new int[INPUTS_MOST];
        final int[] order = new int[INPUTS_MOST];
        int pillarCount;
        final int[] pillarDays = new int[PILLARS_MOST];
        final int[] pillarInputs = new int[PILLARS_MOST];

        Schedule(Plan plan) {
            this.plan = plan;
            calendar = new Calendar(plan);
        }

        void lay() {
            calendar.forget();
            for (int i = 0; i < plan.inputCount; i++) {
                startsOff[i] = plan.kinds[i] == FORWARD ? calendar.putOff(plan.starts[i]) : 0;
                endsOff[i] = calendar.putOff(plan.ends[i]);
                layPeriods(i);
            }
            sortByEnds();
            layPillars();
        }

        private void layPeriods(int i) {
            int every = plan.everys[i];
            int many = every > 0 ? Math.min(PERIODS_MOST, (plan.ends[i] - 1) / every + 1) : 0;
            periodCounts[i] = many;
            for (int k = 0; k < many; k++) {
                periodEnds[i * PERIODS_MOST + k] = calendar.putOff(plan.ends[i] - (many - 1 - k) * every);
            }
        }

        private void sortByEnds() {
            for (int i = 0; i < plan.inputCount; i++) {
                int at = i;
                while (at > 0 && endsOff[order[at - 1]] > endsOff[i]) {
                    order[at] = order[at - 1];
                    at--;
                }
                order[at] = i;
            }
        }

        private void layPillars() {
            pillarDays[0] = 0;
            pillarInputs[0] = NONE;
            pillarCount = 1;
            for (int k = 0; k < plan.inputCount; k++) {
                int i = order[k];
                boolean unmet = endsOff[i] <= pillarDays[pillarCount - 1] || startsOff[i] >= endsOff[i];
                madeBy[i] = unmet ? NONE : pillarCount;
                if (!unmet) {
                    pillarDays[pillarCount] = endsOff[i];
                    pillarInputs[pillarCount] = i;
                    pillarCount++;
                }
            }
        }

        boolean hasPillar(int k) {
            return k >= 0 && k < pillarCount && k < PILLARS_MOST;
        }

        int periodEnd(int i, int k) {
            return periodEnds[i * PERIODS_MOST + k];
        }

        int periodDays(int i, int k) {
            return k > 0 ? periodEnd(i, k) - periodEnd(i, k - 1) : periodEnd(i, k);
        }

        int daysOf(int i) {
            return endsOff[i] - startsOff[i];
        }

        /** The last pillar that isn't behind a day. */
        int pillarAt(int day) {
            int k = pillarCount - 1;
            while (k > 0 && pillarDays[k] > day) {
                k--;
            }
            return k;
        }

        int weight(int k, int day) {
            int at = pillarAt(day);
            int span = at + 1 < pillarCount ? pillarDays[at + 1] - pillarDays[at] : 0;
            if (span <= 0 || plan.curve == 1 || day == pillarDays[at]) {
                return k == at ? 1000 : 0;
            }
            int later = (day - pillarDays[at]) * 1000 / span;
            return k == at + 1 ? later : k == at ? 1000 - later : 0;
        }
    }

    /**
     * The factors at the pillars. Every kind of input asks for the greatest f with
     * own * f + the sum of (movingDues * the factor at a day short of the pillar, laid by f) no more than limit.
     */
    private static final class Curve {
        final Plan plan;
        final Schedule dates;
        final int[] counted = new int[INPUTS_MOST];
        final int[] factors = new int[PILLARS_MOST];
        final long[] movingDues = new long[PERIODS_MOST];
        final int[] movingDays = new int[PERIODS_MOST];
        int movingCount;
        long own;
        long limit;
        /** The factor of the pillar ahead of the one that is solved, and how many days lie between them. */
        long anchor;
        int span;

        Curve(Plan plan, Schedule dates) {
            this.plan = plan;
            this.dates = dates;
        }

        void copyFrom(Curve other) {
            System.arraycopy(other.counted, 0, counted, 0, counted.length);
            System.arraycopy(other.factors, 0, factors, 0, factors.length);
        }

        void countRates(Stand stand, int shiftThen) {
            for (int i = 0; i < plan.inputCount && i < INPUTS_MOST; i++) {
                counted[i] = inRateBounds(rateByRule(i, stand.rates[i], shiftThen));
            }
        }

        private int rateByRule(int i, int rate, int shiftThen) {
            Laws laws = plan.laws;
            if (!laws.hasRates()) {
                return rate + shiftThen;
            }
            laws.variables[0] = rate;
            laws.variables[1] = dates.daysOf(i);
            laws.variables[2] = plan.kinds[i];
            laws.variables[3] = shiftThen;
            laws.variables[4] = i;
            return laws.value(laws.ratesFrom, laws.ratesTo);
        }

        /** Solves all pillars from one on; those ahead of it stay. */
        void solve(int from) {
            factors[0] = (int) UNIT;
            for (int k = Math.max(1, from); k < dates.pillarCount && k < PILLARS_MOST; k++) {
                anchor = factors[k - 1];
                span = dates.pillarDays[k] - dates.pillarDays[k - 1];
                movingCount = 0;
                int i = dates.pillarInputs[k];
                if (plan.kinds[i] == SWAP) {
                    askSwap(i, k);
                } else {
                    askLoan(i, k);
                }
                factors[k] = (int) (movingCount == 0 ? greatestAtOnce() : greatestFrom(guess()));
            }
        }

        private void askLoan(int i, int k) {
            int start = dates.startsOff[i];
            own = BASE + (long) counted[i] * dates.daysOf(i);
            limit = 0;
            takeIn(-BASE, start, k);
        }

        private void askSwap(int i, int k) {
            own = BASE;
            // f and a rounded part are at most UNIT, if and only if the whole is below UNIT + 1.
            limit = (UNIT + 1) * BASE - 1;
            for (int p = 0; p < dates.periodCounts[i]; p++) {
                takeIn((long) counted[i] * dates.periodDays(i, p), dates.periodEnd(i, p), k);
            }
        }

        /** Takes a due at a day into what is asked of pillar k. */
        private void takeIn(long due, int day, int k) {
            int ahead = dates.pillarDays[k - 1];
            if (day >= dates.pillarDays[k]) {
                own += due;
            } else if (day <= ahead) {
                limit -= due * factorAt(day);
            } else if (plan.curve == 1) {
                limit -= due * anchor;
            } else if (movingCount < PERIODS_MOST) {
                movingDues[movingCount] = due;
                movingDays[movingCount] = day - ahead;
                movingCount++;
            }
        }

        private long greatestAtOnce() {
            return own > 0 ? inFactorBounds(Math.floorDiv(limit, own)) : 0;
        }

        private static long inFactorBounds(long f) {
            return Math.max(0, Math.min(UNIT, f));
        }

        /** The answer if the factors between were not rounded: near the true one, so the search is short. */
        private long guess() {
            long above = limit * span;
            long below = own * span;
            for (int m = 0; m < movingCount; m++) {
                above -= movingDues[m] * anchor * (span - movingDays[m]);
                below += movingDues[m] * movingDays[m];
            }
            return below > 0 ? inFactorBounds(Math.floorDiv(above, below)) : 0;
        }

        private boolean holds(long f) {
            long sum = own * f;
            for (int m = 0; m < movingCount && span > 0; m++) {
                sum += movingDues[m] * (anchor + Math.floorDiv((f - anchor) * movingDays[m], (long) span));
            }
            return sum <= limit;
        }

        /** What holds for f holds for all below it, so strides from the guess, doubled, soon enclose the greatest. */
        private long greatestFrom(long guess) {
            long low = guess;
            long high = guess + 1;
            for (long stride = 1; stride <= 2 * UNIT && low > 0 && !holds(low); stride += stride) {
                high = low;
                low = Math.max(0, low - stride);
            }
            for (long stride = 1; stride <= 2 * UNIT && high <= UNIT && holds(high); stride += stride) {
                low = high;
                high = Math.min(UNIT + 1, high + stride);
            }
            for (int k = 0; k < 40 && low + 1 < high; k++) {
                long middle = (low + high) / 2;
                if (holds(middle)) {
                    low = middle;
                } else {
                    high = middle;
                }
            }
            return low;
        }

        int lastFactor() {
            return factors[dates.pillarCount - 1];
        }

        int factorAt(int day) {
            int k = dates.pillarAt(day);
            if (k + 1 >= dates.pillarCount || plan.curve == 1) {
                return factors[k];
            }
            long days = dates.pillarDays[k + 1] - dates.pillarDays[k];
            if (days <= 0) {
                return factors[k];
            }
            long rise = factors[k + 1] - factors[k];
            return factors[k] + (int) Math.floorDiv(rise * (day - dates.pillarDays[k]), days);
        }

        int rateBetween(int a, int b) {
            long far = factorAt(b);
            long below = far * (b - a);
            return below > 0 ? (int) Math.floorDiv((factorAt(a) - far) * BASE, below) : 0;
        }

        int swapRate(int i) {
            long below = 0;
            for (int p = 0; p < dates.periodCounts[i]; p++) {
                below += (long) dates.periodDays(i, p) * factorAt(dates.periodEnd(i, p));
            }
            long above = (UNIT - factorAt(dates.endsOff[i])) * BASE;
            return below > 0 ? (int) Math.floorDiv(above, below) : 0;
        }

        long bookWorth() {
            long sum = 0;
            for (int k = 0; k < plan.flowCount && k < FLOWS_MOST; k++) {
                sum += (long) plan.stand.amounts[k] * factorAt(plan.flowDays[k]);
            }
            return sum;
        }
    }

    /** How the book hangs on the pillars, and how it is made flat. */
    private static final class Hedge {
        final Plan plan;
        final Schedule dates;
        final Curve curve;
        /** By pillars: the thousandths of pieces taken, and what hangs there with all that is taken. */
        final long[] taken = new long[PILLARS_MOST];
        final long[] hanging = new long[PILLARS_MOST];

        Hedge(Plan plan, Schedule dates, Curve curve) {
            this.plan = plan;
            this.dates = dates;
            this.curve = curve;
        }

        long bookHang(int k) {
            long sum = 0;
            for (int n = 0; n < plan.flowCount && n < FLOWS_MOST; n++) {
                sum += (long) plan.stand.amounts[n] * dates.weight(k, plan.flowDays[n]);
            }
            return sum;
        }

        private long pieceHang(int i, int k) {
            long last = BASE * dates.weight(k, dates.endsOff[i]);
            if (plan.kinds[i] == SWAP) {
                return last + dueHang(i, k);
            }
            long due = (long) curve.counted[i] * dates.daysOf(i) * dates.weight(k, dates.endsOff[i]);
            return plan.kinds[i] == FORWARD ? last + due - BASE * dates.weight(k, dates.startsOff[i]) : last + due;
        }

        private long dueHang(int i, int k) {
            long sum = 0;
            for (int p = 0; p < dates.periodCounts[i]; p++) {
                long due = (long) curve.counted[i] * dates.periodDays(i, p);
                sum += due * dates.weight(k, dates.periodEnd(i, p));
            }
            return sum;
        }

        void flatten() {
            for (int k = 0; k < dates.pillarCount; k++) {
                hanging[k] = bookHang(k) * BASE * 1000;
                taken[k] = 0;
            }
            for (int k = dates.pillarCount - 1; k >= 1; k--) {
                takePieces(k);
            }
        }

        /** A piece hangs on no pillar behind its own, so what is flat stays flat. */
        private void takePieces(int k) {
            int i = dates.pillarInputs[k];
            long own = pieceHang(i, k);
            if (own <= 0) {
                return;
            }
            taken[k] = -Math.floorDiv(2 * hanging[k] + own, 2 * own);
            for (int on = 1; on <= k; on++) {
                hanging[on] += taken[k] * pieceHang(i, on);
            }
        }
    }

    /** What lots make of the book. Draws that differ in their order alone are reckoned once, by their number. */
    private static final class Odds {
        final Plan plan;
        final Curve now;
        final Curve trial;
        final int[] draws = new int[DRAWS_MOST];
        long waysBelow;
        long waysInAll;
        long worthSum;

        Odds(Plan plan, Curve now, Curve trial) {
            this.plan = plan;
            this.now = now;
            this.trial = trial;
        }

        void tally(int b, int n, long bar) {
            waysBelow = 0;
            waysInAll = 0;
            worthSum = 0;
            // All lots of no input are one sort, behind those of the inputs.
            int sorts = plan.inputCount + 1;
            int many = 1;
            for (int k = 0; k < n; k++) {
                many *= sorts;
            }
            for (int which = 0; which < many; which++) {
                if (drawInOrder(which, sorts, n)) {
                    addDraw(b, n, bar);
                }
            }
        }

        private boolean drawInOrder(int which, int sorts, int n) {
            int rest = which;
            for (int k = 0; k < n && k < DRAWS_MOST && sorts > 0; k++) {
                draws[k] = rest % sorts;
                rest /= sorts;
                if (k > 0 && draws[k] < draws[k - 1]) {
                    return false;
                }
            }
            return true;
        }

        private void addDraw(int b, int n, long bar) {
            trial.copyFrom(now);
            long ways = orders(n);
            for (int k = 0; k < n; k++) {
                if (draws[k] < plan.inputCount) {
                    trial.counted[draws[k]] += b;
                } else {
                    ways *= LOTS - plan.inputCount;
                }
            }
            for (int i = 0; i < plan.inputCount; i++) {
                trial.counted[i] = inRateBounds(trial.counted[i]);
            }
            trial.solve(1);
            long worth = trial.bookWorth();
            waysInAll += ways;
            worthSum += ways * worth;
            if (worth < bar) {
                waysBelow += ways;
            }
        }

        private long orders(int n) {
            if (n < 2) {
                return 1;
            }
            int alike = 0;
            for (int k = 1; k < n; k++) {
                if (draws[k] == draws[k - 1]) {
                    alike++;
                }
            }
            if (n == 2) {
                return alike == 1 ? 1 : 2;
            }
            return alike == 2 ? 1 : alike == 1 ? 3 : 6;
        }

        static long inLowestTerms(long above, long below, int what) {
            long a = Math.abs(above);
            long b = below;
            for (int k = 0; k < 100 && b > 0; k++) {
                long rest = a % b;
                a = b;
                b = rest;
            }
            if (a <= 0) {
                return what;
            }
            return (what == 0 ? above : below) / a;
        }
    }
}
