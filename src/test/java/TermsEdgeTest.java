/** The edges of "Terms" ==== 2 and ==== 3: days, laws, pillars, factors, deeds, undoing, the book, chances. */
public final class TermsEdgeTest {
    private static final long UNIT = 1_000_000_000L;
    private static final long BASE = 3_600_000L;
    private static final String ALWAYS = "opens : 1 = 1";
    private static final String THOUSAND = "(999 + 1)";
    private static final String MILLION = THOUSAND + " * " + THOUSAND;

    public static void main(String[] args) {
        openWithoutLaw();
        everyDay();
        openByLaw();
        putOff();
        wordsOfOpens();
        wordsOfRates();
        keptToAMillion();
        ratesThatCount();
        greatestFactor();
        order();
        unmet();
        factorAtADay();
        periods();
        theMostPeriods();
        notOfEach();
        whyNot();
        deedsOfShifts();
        deedsOfBumps();
        deedsOfAmounts();
        otherDeeds();
        undoneAsAWhole();
        tenAtMost();
        movesToTheBound();
        weights();
        weightsBySteps();
        flatRoundedDown();
        told();
        lots();
        weeks();
        traysMissingAtFirst();
        traysOfSorts();
        images();
        Kit.end();
    }

    private static void due(String call, long got, long want) {
        Kit.due(call, got, want);
    }

    // ---- days

    /** "without one: it is one of the first five of its week, and no holiday" */
    private static void openWithoutLaw() {
        for (int first = 0; first <= 6; first++) {
            PillarDesk x = Kit.told("desk first " + first + " curve 0 shift 0;holiday 15;holiday 999;");
            for (int d = 0; d < 30; d++) {
                due("first " + first + " open(" + d + ")", x.open(d), (first + d) % 7 <= 4 && d != 15 ? 1 : 0);
            }
            due("the last holiday", x.open(999), 0);
            due("behind the last holiday", x.open(1000), (first + 1000) % 7 <= 4 ? 1 : 0);
        }
    }

    /** "Whether a DAY (0 to 9999) is OPEN": each of them, asked twice, with a law and without */
    private static void everyDay() {
        PillarDesk plain = Kit.told("desk first 4 curve 0 shift 0;holiday 500;");
        PillarDesk law = Kit.lines("opens : week = 2 or date > 999 * 9");
        for (int turn = 0; turn < 2; turn++) {
            for (int d = 0; d <= 9999; d++) {
                due("open(" + d + ")", plain.open(d), (4 + d) % 7 < 5 && d != 500 ? 1 : 0);
                due("open(" + d + ") by a law", law.open(d), d % 7 == 2 || d > 8991 ? 1 : 0);
            }
        }
    }

    /** "A DAY is OPEN, if the law opens holds" */
    private static void openByLaw() {
        PillarDesk x = Kit.lines("holiday 3", "opens : date < 10");
        due("a holiday too", x.open(3), 1);
        due("the end of the week too", x.open(6), 1);
        due("the last that holds", x.open(9), 1);
        due("the first that doesn't", x.open(10), 0);
    }

    /** "the first OPEN one of d, d + 1 .. d + 30 (d, if none of these is)" */
    private static void putOff() {
        PillarDesk x = Kit.lines("opens : date = 100 or date = 101");
        due("open itself", x.off(100), 100);
        due("open itself, not the one ahead", x.off(101), 101);
        due("by one", x.off(99), 100);
        due("by thirty", x.off(70), 100);
        due("not by thirty-one", x.off(69), 69);
        due("none behind", x.off(102), 102);
        PillarDesk ends = Kit.lines("deposit 70 rate 1", "deposit 69 rate 1", "forward 69 70 rate 1", "forward 70 100 rate 1", ALWAYS.replace("1 = 1", "date = 100"));
        due("an end by thirty", ends.input(0, 4), 100);
        due("an end not by thirty-one", ends.input(1, 4), 69);
        due("a start not by thirty-one", ends.input(2, 3), 69);
        due("a start by thirty", ends.input(3, 3), 100);
        PillarDesk never = Kit.lines("deposit 999 rate 1", "opens : 1 = 2");
        due("never open", never.off(9999), 9999);
        due("an end, never open", never.input(0, 4), 999);
        PillarDesk last = Kit.lines("deposit 999 rate 1", "opens : date = 999 + 30");
        due("the last end, by thirty", last.input(0, 4), 1029);
    }

    /** "week: FIRST and the DAY, its rest by 7; holiday: 1 if it is told as one, else 0; date: the DAY" */
    private static void wordsOfOpens() {
        for (int w = 0; w < 7; w++) {
            PillarDesk x = Kit.told("desk first 4 curve 0 shift 0;opens : week = " + w + ";");
            for (int d = 0; d < 16; d++) {
                due("week " + w + " at " + d, x.open(d), (4 + d) % 7 == w ? 1 : 0);
            }
            due("week at 9999", x.open(9999), (4 + 9999) % 7 == w ? 1 : 0);
        }
        due("week is never 7", Kit.told("desk first 6 curve 0 shift 0;opens : week > 6 or week < 0;").opens(0, 999), 0);
        PillarDesk holidays = Kit.lines("opens : holiday = 1", "holiday 0", "holiday 999", "holiday 999");
        due("holiday 0", holidays.open(0), 1);
        due("no holiday", holidays.open(1), 0);
        due("holiday 999, told twice", holidays.open(999), 1);
        due("else 0", Kit.lines("holiday 5", "opens : holiday = 0").opens(0, 10), 9);
        PillarDesk dates = Kit.lines("opens : date > 999 * 10 + 8");
        due("date 9998", dates.open(9998), 0);
        due("date 9999", dates.open(9999), 1);
        due("date 0", Kit.lines("opens : date = 0").open(0), 1);
    }

    /** "days: how many from its start to its end, PUT OFF (of a deposit, a swap: from DAY 0)" and the others */
    private static void wordsOfRates() {
        String shut = "opens : date > 4";
        PillarDesk days = Kit.lines("deposit 3 rate 0", "swap 40 every 30 rate 0", "forward 0 40 rate 0", "forward 3 4 rate 0", "rates : days", shut);
        due("a deposit from day 0, though it isn't open", days.input(0, 6), 5);
        due("a swap from day 0", days.input(1, 6), 40);
        due("a forward from its start, put off", days.input(2, 6), 35);
        due("none", days.input(3, 6), 0);
        PillarDesk far = Kit.lines("deposit 999 rate 0", "rates : days - 30", "opens : date = 999 + 30");
        due("the most days", far.input(0, 6), 999);
        PillarDesk kinds = Kit.lines("deposit 3 rate 0", "forward 0 40 rate 0", "swap 40 every 30 rate 0", "rates : kind");
        for (int i = 0; i < 3; i++) {
            due("kind " + i, kinds.input(i, 6), i);
        }
        PillarDesk numbers = Kit.told(Kit.HEAD + "deposit 3 rate 5;".repeat(8) + "rates : input;");
        due("the first input", numbers.input(0, 6), 0);
        due("the last input", numbers.input(7, 6), 7);
        PillarDesk shifts = Kit.told("desk first 0 curve 0 shift 9;deposit 3 rate 5;rates : shift;");
        due("the greatest shift", shifts.input(0, 6), 9);
        shifts.shift(0);
        due("the least shift", shifts.input(0, 6), 0);
        PillarDesk now = Kit.lines("deposit 3 rate 5", "rates : told * 2");
        now.bump(0, 99);
        due("the rate now", now.input(0, 6), 208);
    }

    private static int counting(String sum) {
        return Kit.lines("deposit 91 rate 400", "rates : " + sum).input(0, 6);
    }

    /** "Each + - * is kept from -1,000,000 to 1,000,000" */
    private static void keptToAMillion() {
        due("* up to it", counting("if " + MILLION + " = 999 * 999 + 999 + 999 + 1 then 5 else 6 end"), 5);
        due("+ short of it", counting(MILLION + " - (999 * 999 + 999 + 999)"), 1);
        due("+ up to it", counting("(999 * 999 + 999 + 999 + 1) - (999 * 999 + 999 + 999)"), 1);
        due("+ above it", counting("(999 * 999 + 999 + 999 + 2) - (999 * 999 + 999 + 999)"), 1);
        due("+ far above it", counting("(" + MILLION + " + " + MILLION + ") - (999 * 999 + 999 + 999)"), 1);
        due("* above it", counting("(" + THOUSAND + " * (999 + 2)) - (999 * 999 + 999 + 999)"), 1);
        due("* far above it", counting("(" + MILLION + ") * (" + MILLION + ") - (999 * 999 + 999 + 999)"), 1);
        due("- down to it", counting("(0 - " + MILLION + ") + (999 * 999 + 999 + 999) + 9"), 8);
        due("- below it", counting("(0 - " + MILLION + " - 1) + (999 * 999 + 999 + 999) + 9"), 8);
        due("- far below it", counting("(0 - " + MILLION + " - " + MILLION + ") + (999 * 999 + 999 + 999) + 9"), 8);
        due("* far below it", counting("(0 - " + MILLION + ") * (" + MILLION + ") + (999 * 999 + 999 + 999) + 9"), 8);
        due("* below it", counting("(0 - " + THOUSAND + ") * (999 + 2) + (999 * 999 + 999 + 999) + 9"), 8);
        due("* of two below 0", counting("(0 - " + MILLION + ") * (0 - " + MILLION + ") - (999 * 999 + 999 + 999)"), 1);
        due("each, from the left", counting(MILLION + " + 5 - 999 * 999 - 999 - 995"), 5);
        due("each, from the left, below", counting("0 - " + MILLION + " - 5 + 999 * 999 + 999 + 999 + 6"), 5);
        due("by date too", Kit.lines("opens : date * " + MILLION + " = " + MILLION).open(9999), 1);
    }

    /** "what the law rates tells, 0 at least, 999 at most (without one: the RATE and the SHIFT, these bounds too)" */
    private static void ratesThatCount() {
        due("a law: 0", counting("5 - 5"), 0);
        due("a law: below 0", counting("5 - 6"), 0);
        due("a law: far below 0", counting("0 - 999 * 999"), 0);
        due("a law: 999", counting("999"), 999);
        due("a law: 998", counting("998"), 998);
        due("a law: above 999", counting("999 + 1"), 999);
        due("a law: far above 999", counting("999 * 999"), 999);
        PillarDesk x = Kit.told("desk first 0 curve 0 shift 9;deposit 91 rate 989;deposit 92 rate 990;deposit 93 rate 991;deposit 94 rate 999;deposit 95 rate 0;");
        int[] want = {998, 999, 999, 999, 9};
        for (int i = 0; i < want.length; i++) {
            due("without one: input " + i, x.input(i, 6), want[i]);
        }
        x.shift(0);
        due("without one: 0", x.input(4, 6), 0);
        due("without one: 999", x.input(3, 6), 999);
        due("it is the rate that counts by which all is solved", x.pillar(1, 1), UNIT * BASE / (BASE + 989 * 91));
    }

    // ---- pillars

    /** "a PILLAR with the greatest FACTOR f such that, with it as the last PILLAR .. no more than" */
    private static void greatestFactor() {
        due("a deposit just met", Kit.lines("deposit 800 rate 500", ALWAYS).pillar(1, 1), 900_000_000);
        due("a deposit, rounded down", Kit.lines("deposit 801 rate 500", ALWAYS).pillar(1, 1), UNIT * BASE / (BASE + 400_500));
        due("a deposit at rate 0", Kit.lines("deposit 999 rate 0", ALWAYS).pillar(1, 1), UNIT);
        due("a deposit, the least of all", Kit.lines("deposit 999 rate 999", ALWAYS).pillar(1, 1), UNIT * BASE / (BASE + 998_001));
        due("a forward just met", Kit.lines("deposit 100 rate 0", "forward 100 900 rate 500", ALWAYS).pillar(2, 1), 900_000_000);
        due("a forward, rounded down", Kit.lines("deposit 100 rate 0", "forward 100 901 rate 500", ALWAYS).pillar(2, 1), UNIT * BASE / (BASE + 400_500));
        due("a swap just met", Kit.lines("swap 800 every 999 rate 500", ALWAYS).pillar(1, 1), 900_000_000);
        due("a deposit of 91 days", Kit.lines("deposit 91 rate 400").pillar(1, 1), 989_990_100);
        due("a swap, the pay rounded down", Kit.lines("swap 91 every 999 rate 400").pillar(1, 1), 989_990_101);
        // BASE times the factor at the start is just one short of the next f.
        PillarDesk shortOf = Kit.lines("deposit 57 rate 547", "forward 57 698 rate 343", ALWAYS);
        due("a forward, the factor at its start", shortOf.pillar(1, 1), 991_413_532);
        due("a forward, one short of the next", 934_349_927L * (BASE + 343 * 641) - BASE * 991_413_532L, 1);
        due("a forward, one short", shortOf.pillar(2, 1), 934_349_926);
        // f and the pay, if it weren't rounded, are just one BASEth short of UNIT + 1.
        PillarDesk most = Kit.lines("deposit 239 rate 511", "swap 478 every 239 rate 911", ALWAYS);
        long pay = 911L * 239;
        due("a swap, the most that is rounded down", 887_809_229L * (BASE + pay) + pay * most.pillar(1, 1), (UNIT + 1) * BASE - 1);
        due("a swap, just met", most.pillar(2, 1), 887_809_229);
        due("a swap, one BASEth too much", Kit.lines("swap 900 every 999 rate 4", ALWAYS).pillar(1, 1), 999_000_999);
        for (int curve = 0; curve <= 1; curve++) {
            greatestForward("desk first 0 curve " + curve + " shift 0;deposit 30 rate 300;forward 77 211 rate 987;", 77, 211, 987);
            greatestForward("desk first 0 curve " + curve + " shift 0;deposit 30 rate 300;forward 210 211 rate 1;opens : 1 = 1;", 210, 211, 1);
            greatestSwap("desk first 0 curve " + curve + " shift 0;deposit 91 rate 300;swap 990 every 60 rate 640;", 640);
            greatestSwap("desk first 0 curve " + curve + " shift 0;deposit 91 rate 300;swap 999 every 30 rate 999;opens : 1 = 1;", 999);
            greatestSwap("desk first 0 curve " + curve + " shift 0;deposit 91 rate 300;swap 92 every 91 rate 1;opens : 1 = 1;", 1);
        }
    }

    private static void greatestForward(String text, int from, int to, long rate) {
        PillarDesk x = Kit.told(text);
        int start = x.off(from);
        int end = x.off(to);
        long f = x.pillar(2, 1);
        long cost = BASE + rate * (end - start);
        due(text + " the greatest holds", f * cost <= BASE * laid(x, start, f) ? 1 : 0, 1);
        due(text + " one more doesn't", (f + 1) * cost <= BASE * laid(x, start, f + 1) ? 1 : 0, 0);
    }

    private static void greatestSwap(String text, long rate) {
        PillarDesk x = Kit.told(text);
        long f = x.pillar(2, 1);
        due(text + " the greatest holds", swapCost(x, rate, f) <= UNIT ? 1 : 0, 1);
        due(text + " one more doesn't", swapCost(x, rate, f + 1) <= UNIT ? 1 : 0, 0);
    }

    private static long swapCost(PillarDesk x, long rate, long f) {
        long sum = 0;
        int from = 0;
        for (int k = 0; x.period(1, k) != -1; k++) {
            int end = x.period(1, k);
            sum += rate * (end - from) * laid(x, end, f);
            from = end;
        }
        return f + Math.floorDiv(sum, BASE);
    }

    /** The factor at a day, if that of the second pillar were f. */
    private static long laid(PillarDesk x, int day, long f) {
        long a = x.pillar(1, 0);
        long b = x.pillar(2, 0);
        if (day >= b) {
            return f;
        }
        long early = x.pillar(1, 1);
        if (day <= a) {
            return x.factor(day);
        }
        return x.count(4) == 1 ? early : early + Math.floorDiv((f - early) * (day - a), b - a);
    }

    /** "INPUT by INPUT by their ends, PUT OFF, the earlier ahead, of like ones the lesser number" */
    private static void order() {
        PillarDesk x = Kit.lines("deposit 30 rate 1", "deposit 28 rate 2", "deposit 29 rate 3", ALWAYS);
        int[] by = {-1, 1, 2, 0};
        for (int k = 0; k < by.length; k++) {
            due("pillar " + k, x.pillar(k, 2), by[k]);
        }
        // Day 26 is put off to day 28.
        PillarDesk alike = Kit.lines("deposit 28 rate 1", "deposit 26 rate 2");
        due("of like ones the lesser number, though told later", alike.pillar(1, 2), 0);
        due("the other is unmet", alike.input(1, 8), 1);
        PillarDesk turned = Kit.lines("deposit 26 rate 2", "deposit 28 rate 1");
        due("of like ones the lesser number", turned.pillar(1, 2), 0);
        due("one pillar", turned.pillars(), 2);
    }

    /** "An INPUT is UNMET, if its end .. is that of an INPUT ahead of it .. that isn't UNMET, or (a forward) its start .. isn't earlier" */
    private static void unmet() {
        PillarDesk near = Kit.lines("deposit 30 rate 1", "deposit 31 rate 2", ALWAYS);
        due("one day later is met", near.input(1, 8), 0);
        due("two pillars", near.pillars(), 3);
        PillarDesk like = Kit.lines("deposit 30 rate 1", "swap 30 every 30 rate 2", "forward 1 30 rate 3", ALWAYS);
        due("the first", like.input(0, 8), 0);
        due("a swap with a like end", like.input(1, 8), 1);
        due("a forward with a like end", like.input(2, 8), 1);
        // Days 26 and 27 are put off to 28.
        PillarDesk starts = Kit.lines("forward 26 28 rate 1", "forward 25 28 rate 1");
        due("a start that is its end", starts.input(0, 8), 1);
        due("the next isn't hindered by an unmet one", starts.input(1, 8), 0);
        due("it makes the pillar", starts.pillar(1, 2), 1);
        due("a start one day earlier", Kit.lines("forward 27 28 rate 1", ALWAYS).input(0, 8), 0);
        PillarDesk both = Kit.lines("forward 26 27 rate 1", "forward 26 28 rate 1");
        due("none is met", both.pillars(), 1);
        due("no pillar: the factor stays", both.factor(9999), UNIT);
    }

    /** "at a PILLAR as told; behind the last one as at that; between two .. rounded down; CURVE 1: A" */
    private static void factorAtADay() {
        PillarDesk x = Kit.lines("deposit 10 rate 999", "deposit 13 rate 999", ALWAYS);
        long a = UNIT * BASE / (BASE + 9990);
        long b = UNIT * BASE / (BASE + 12987);
        due("at the pillar", x.factor(10), a);
        due("a day behind it", x.factor(11), a + Math.floorDiv(b - a, 3L));
        due("a day ahead of the next", x.factor(12), a + Math.floorDiv((b - a) * 2, 3L));
        due("at the next", x.factor(13), b);
        due("behind the last", x.factor(14), b);
        due("a day behind day 0", x.factor(1), UNIT + Math.floorDiv(a - UNIT, 10L));
        PillarDesk y = Kit.told("desk first 0 curve 1 shift 0;deposit 10 rate 999;deposit 13 rate 999;opens : 1 = 1;");
        due("steps: the last day at day 0's", y.factor(9), UNIT);
        due("steps: at the pillar", y.factor(10), a);
        due("steps: a day ahead of the next", y.factor(12), a);
        due("steps: at the next", y.factor(13), b);
        due("steps: behind the last", y.factor(14), b);
    }

    /** "its end, as many days ahead as it pays every, and so on as long as that is above 0, each PUT OFF" */
    private static void periods() {
        PillarDesk x = Kit.lines("swap 90 every 30 rate 1", "swap 91 every 30 rate 1", "swap 89 every 30 rate 1", "swap 30 every 30 rate 1", "swap 29 every 30 rate 1", ALWAYS);
        int[][] want = {{30, 60, 90, -1}, {1, 31, 61, 91, -1}, {29, 59, 89, -1}, {30, -1}, {29, -1}};
        for (int i = 0; i < want.length; i++) {
            for (int k = 0; k < want[i].length; k++) {
                due("period(" + i + ", " + k + ")", x.period(i, k), want[i][k]);
            }
        }
        PillarDesk off = Kit.lines("swap 61 every 30 rate 1", "opens : date > 30");
        due("a stub put off", off.period(0, 0), 31);
        due("two ends on one day", off.period(0, 1), 31);
        due("the last", off.period(0, 2), 61);
        // Of the three periods (31, 0 and 30 days) the second pays nothing.
        long f = off.pillar(1, 1);
        due("by a period of no days", f + 31 * off.factor(31) / BASE <= UNIT ? 1 : 0, 1);
        due("implied by a period of no days", off.implied(0), (UNIT - f) * BASE / (31L * off.factor(31) + 30 * f));
    }

    // ---- deeds

    /** "8 at most", "every .. 30 to 999", "1 to 999": the last input with the most periods there can be */
    private static void theMostPeriods() {
        PillarDesk x = Kit.told(Kit.HEAD + "swap 999 every 30 rate 999;".repeat(7) + "swap 998 every 30 rate 1;flow 500 plus 9;" + ALWAYS + ";");
        due("the last end of the first", x.period(0, 33), 999);
        due("no 35th", x.period(0, 34), -1);
        due("the first end of the last input", x.period(7, 0), 8);
        due("its last end", x.period(7, 33), 998);
        due("no 35th of the last input", x.period(7, 34), -1);
        due("two pillars behind day 0", x.pillars(), 3);
        due("the earlier one is of the last input", x.pillar(1, 2), 7);
        due("all that hangs on it is taken", Math.abs(x.left(1)) <= 2_000_000_000L ? 1 : 0, 1);
        due("all that hangs on the later one is taken", Math.abs(x.left(2)) <= 2_500_000_000L ? 1 : 0, 1);
    }

    /** "not UNIT", of each that a UNIT can be */
    private static void notOfEach() {
        String[] hold = {"1 = 1", "1 < 2", "2 > 1", "[1 = 1 and 2 = 2]", "[1 = 1 or 1 = 2]", "[1 = 2 or 1 = 1]", "not 1 = 2", "not not 1 < 2",
            "if 1 < 2 then 3 else 4 end = 3"};
        for (String unit : hold) {
            due(unit, Kit.lines("opens : " + unit).open(5), 1);
            due("not " + unit, Kit.lines("opens : not " + unit).open(5), 0);
            due("not not " + unit, Kit.lines("opens : not not " + unit).open(5), 1);
            due("if not " + unit, counting("if not " + unit + " then 5 else 6 end"), 6);
        }
        String[] fail = {"1 = 2", "2 < 2", "3 < 2", "2 > 2", "1 > 2", "[1 = 1 and 1 = 2]", "[1 = 2 and 1 = 1]", "[1 = 2 or 1 = 2]", "not 1 = 1"};
        for (String unit : fail) {
            due(unit, Kit.lines("opens : " + unit).open(5), 0);
            due("not " + unit, Kit.lines("opens : not " + unit).open(5), 1);
            due("if " + unit, counting("if " + unit + " then 5 else 6 end"), 6);
        }
    }

    /** "Why not: 1 no such INPUT, flow, SHIFT, AMOUNT (-999 to 999), BUMP (-99 to 99). 2 the RATE would be below 0 or above 999." */
    private static void whyNot() {
        PillarDesk x = Kit.lines("deposit 5 rate 98", "deposit 6 rate 900", "deposit 7 rate 99", "flow 1 plus 1");
        due("one below 0", x.bump(0, -99), -12);
        due("to 0", x.bump(2, -99), 0);
        due("to 999", x.bump(1, 99), 999);
        due("one above 999", x.bump(1, 1), -12);
        due("1 ahead of 2: below", x.bump(2, -100), -11);
        due("1 ahead of 2: above", x.bump(1, 100), -11);
        due("-999", x.amount(0, -999), 0);
        due("-1000", x.amount(0, -1000), -11);
        due("999", x.amount(0, 999), 0);
        due("1000", x.amount(0, 1000), -11);
    }

    /** Answers of judge 0 and 1 on one deed, and of perform. */
    private static void deed(PillarDesk x, long v, int why) {
        Kit.tray(x, 0, v);
        due("deed " + v + ": judge 0", x.judge(0, 0), why == 0 ? -1 : 0);
        due("deed " + v + ": judge 1", x.judge(0, 1), why);
        int undone = x.count(7);
        due("deed " + v + ": perform", x.perform(0), why == 0 ? 1 : 0);
        due("deed " + v + ": can be undone", x.count(7) - undone, why == 0 ? 1 : 0);
        if (why == 0) {
            x.undo(1);
        }
    }

    private static PillarDesk eightAndTen() {
        return Kit.told(Kit.HEAD + "deposit 91 rate 400;".repeat(8) + "flow 3 plus 3;".repeat(10));
    }

    private static void deedLeaves(long v, java.util.function.ToLongFunction<PillarDesk> told, long want) {
        PillarDesk x = eightAndTen();
        Kit.tray(x, 0, v);
        due("deed " + v, x.perform(0), 1);
        due("deed " + v + " is done", told.applyAsLong(x), want);
    }

    /** "10 to 19: SHIFT v - 10" */
    private static void deedsOfShifts() {
        PillarDesk x = eightAndTen();
        deed(x, 9, 1);
        deed(x, 10, 0);
        deed(x, 19, 0);
        deed(x, 20, 1);
        deedLeaves(19, y -> y.count(5), 9);
        deedLeaves(10, y -> y.count(5), 0);
        deedLeaves(11, y -> y.count(5), 1);
    }

    /** "1000 to 8999: INPUT v by 1000 less 1 is BUMPED by v modulo 1000 less 99, if that is 99 at most (else 1)" */
    private static void deedsOfBumps() {
        PillarDesk x = eightAndTen();
        deed(x, 999, 1);
        deed(x, 1000, 0);
        deed(x, 1198, 0);
        deed(x, 1199, 1);
        deed(x, 1999, 1);
        deed(x, 2000, 0);
        deed(x, 8000, 0);
        deed(x, 8198, 0);
        deed(x, 8199, 1);
        deed(x, 8999, 1);
        deed(x, 9000, 1);
        deed(x, 9099, 1);
        deedLeaves(1000, y -> y.input(0, 5), 301);
        deedLeaves(1198, y -> y.input(0, 5), 499);
        deedLeaves(8000, y -> y.input(7, 5), 301);
        deedLeaves(8198, y -> y.input(7, 5), 499);
        deedLeaves(2100, y -> y.input(1, 5), 401);
        PillarDesk seven = Kit.told(Kit.HEAD + "deposit 91 rate 99;".repeat(7));
        deed(seven, 7000, 0);
        deed(seven, 8000, 1);
        seven.bump(6, -1);
        deed(seven, 7000, 2);
        deed(seven, 7001, 0);
        PillarDesk high = Kit.lines("deposit 91 rate 900");
        deed(high, 1198, 0);
        high.bump(0, 1);
        deed(high, 1198, 2);
        deed(high, 1197, 0);
    }

    /** "10000 to 29999: flow (v - 10000) by 2000 has the AMOUNT of the rest less 999 (above 999: 1)" */
    private static void deedsOfAmounts() {
        PillarDesk x = eightAndTen();
        deed(x, 9999, 1);
        deed(x, 10000, 0);
        deed(x, 11998, 0);
        deed(x, 11999, 1);
        deed(x, 12000, 0);
        deed(x, 28000, 0);
        deed(x, 29998, 0);
        deed(x, 29999, 1);
        deed(x, 30000, 1);
        deedLeaves(10000, y -> y.flow(0, 1), -999);
        deedLeaves(10999, y -> y.flow(0, 1), 0);
        deedLeaves(11998, y -> y.flow(0, 1), 999);
        deedLeaves(28000, y -> y.flow(9, 1), -999);
        deedLeaves(29998, y -> y.flow(9, 1), 999);
        PillarDesk nine = Kit.told(Kit.HEAD + "flow 3 plus 3;".repeat(9));
        deed(nine, 27998, 0);
        deed(nine, 28000, 1);
    }

    /** "others: 1" */
    private static void otherDeeds() {
        PillarDesk x = eightAndTen();
        long[] others = {0, 1, -1, -10, -1000, -10000, 100, 9998, 30001, 65546, 4294967306L, 4294968296L, 4294978295L, -4294956297L, -4294967286L, Long.MIN_VALUE, Long.MAX_VALUE};
        for (long v : others) {
            deed(x, v, 1);
        }
    }

    /** "Calls that did some can be UNDONE each as a whole, the latest first" */
    private static void undoneAsAWhole() {
        PillarDesk x = eightAndTen();
        Kit.tray(x, 0, 15, 1109, 12000, 9);
        Kit.tray(x, 1, 9, 15);
        x.bump(3, 7);
        due("three of four", x.perform(0), 3);
        due("none of two", x.perform(1), 0);
        due("a call that did none can't be undone", x.count(7), 2);
        due("refused", x.shift(10), -11);
        due("a refused call can't be undone", x.count(7), 2);
        due("a week", x.week(1, 3), 3);
        due("one call", x.count(7), 3);
        due("the latest first", x.undo(1), 2);
        due("the week alone: rates", x.count(6), 3217);
        due("the week alone: shift", x.count(5), 5);
        due("as a whole", x.undo(1), 1);
        due("rates", x.count(6), 3207);
        due("shift", x.count(5), 0);
        due("amount", x.flow(1, 1), 3);
        due("the first", x.undo(1), 0);
        due("all of it", x.count(6), 3200);
        PillarDesk none = new PillarDesk();
        due("a week of which none could be", none.week(1, 3), 0);
        due("it can't be undone", none.count(7), 0);
    }

    /** "10 at most (eldest are forgotten)" */
    private static void tenAtMost() {
        PillarDesk x = Kit.lines("deposit 5 rate 100");
        for (int k = 1; k <= 9; k++) {
            x.bump(0, 1);
            due("so many", x.count(7), k);
        }
        x.bump(0, 1);
        due("ten", x.count(7), 10);
        PillarDesk y = Kit.lines("deposit 5 rate 100");
        for (int k = 1; k <= 11; k++) {
            y.bump(0, 1);
        }
        due("not eleven", y.count(7), 10);
        due("all ten", x.undo(10), 0);
        due("none was forgotten", x.input(0, 5), 100);
        due("ten of eleven", y.undo(10), 0);
        due("the eldest was forgotten", y.input(0, 5), 101);
        due("it can't be undone", y.undo(1), -3);
    }

    // ---- the book

    /** "MOVE of an INPUT: the WORTH with its RATE that COUNTS 1 more (999 at most), all solved anew, less the WORTH" */
    private static void movesToTheBound() {
        PillarDesk x = Kit.told("desk first 0 curve 0 shift 9;deposit 91 rate 989;flow 91 plus 7;");
        long now = UNIT * BASE / (BASE + 998 * 91);
        long then = UNIT * BASE / (BASE + 999 * 91);
        due("998 counts", x.move(0), 7 * then - 7 * now);
        x.bump(0, 1);
        due("999 counts", x.move(0), 0);
        x.bump(0, 9);
        due("the rate is 999, too", x.move(0), 0);
        PillarDesk law = Kit.lines("deposit 91 rate 999", "flow 91 plus 7", "rates : 5");
        due("the rate that counts is moved, not the rate", law.move(0), 7 * (UNIT * BASE / (BASE + 6 * 91)) - 7 * (UNIT * BASE / (BASE + 5 * 91)));
        due("no flow", Kit.lines("deposit 91 rate 5").move(0), 0);
        due("an unmet one", Kit.lines("deposit 91 rate 5", "deposit 91 rate 5", "flow 91 plus 7").move(1), 0);
    }

    /** "at the PILLAR, behind the last one for that: 1000; between two .. rounded down .. what that leaves of 1000" */
    private static void weights() {
        String[] pillars = {"deposit 3 rate 1", "deposit 999 rate 1", ALWAYS};
        int[][] want = {{0, 1000, 0, 0}, {1, 667, 333, 0}, {2, 334, 666, 0}, {3, 0, 1000, 0}, {4, 0, 999, 1}, {998, 0, 2, 998}, {999, 0, 0, 1000}};
        for (int[] row : want) {
            PillarDesk x = Kit.lines("flow " + row[0] + " plus 1", pillars[0], pillars[1], pillars[2]);
            for (int k = 0; k < 3; k++) {
                due("weight of pillar " + k + " at " + row[0], x.hang(k), row[k + 1]);
            }
        }
        PillarDesk behind = Kit.lines("flow 4 plus 1", "flow 999 minus 999", "deposit 3 rate 1", ALWAYS);
        due("behind the last one", behind.hang(1), -998_000);
        due("and none ahead", behind.hang(0), 0);
        due("day 0 alone", Kit.lines("flow 999 minus 999").hang(0), -999_000);
        PillarDesk most = Kit.told(Kit.HEAD + "flow 999 plus 999;".repeat(10) + "deposit 5 rate 0;");
        due("the most", most.hang(1), 9_990_000);
    }

    /** "CURVE 1: for the earlier one 1000; for others 0" */
    private static void weightsBySteps() {
        int[][] want = {{0, 1000, 0, 0}, {2, 1000, 0, 0}, {3, 0, 1000, 0}, {998, 0, 1000, 0}, {999, 0, 0, 1000}};
        for (int[] row : want) {
            PillarDesk x = Kit.told("desk first 0 curve 1 shift 0;deposit 3 rate 1;deposit 999 rate 1;opens : 1 = 1;flow " + row[0] + " plus 1;");
            for (int k = 0; k < 3; k++) {
                due("step weight of pillar " + k + " at " + row[0], x.hang(k), row[k + 1]);
            }
        }
    }

    /** "w is less than 0: (2 * q + X) / (2 * X), rounded down. LEFT on a PILLAR: q with all that is taken." */
    private static void flatRoundedDown() {
        // X is 4,000,000 thousand, HANG is 5: q is 4.5 X.
        long half = 2_000_000_000L;
        PillarDesk up = Kit.lines("deposit 800 rate 500", "flow 4 plus 1", ALWAYS);
        due("HANG", up.hang(1), 5);
        due("a half is taken", up.flat(1), -5);
        due("a half is left, below 0", up.left(1), -half);
        PillarDesk down = Kit.lines("deposit 800 rate 500", "flow 4 minus 1", ALWAYS);
        due("below 0 a half isn't taken", down.flat(1), 4);
        due("below 0 a half is left, below 0", down.left(1), -half);
        PillarDesk none = Kit.lines("deposit 800 rate 500", ALWAYS);
        due("nothing hangs", none.flat(1), 0);
        due("nothing is left", none.left(1), 0);
        PillarDesk even = Kit.lines("deposit 800 rate 0", "flow 4 plus 1", ALWAYS);
        due("no rest", even.flat(1), -5);
        due("no rest is left", even.left(1), 0);
        PillarDesk less = Kit.lines("deposit 800 rate 501", "flow 4 plus 1", ALWAYS);
        long own = 1000 * (BASE + 501 * 800);
        due("short of a half", less.flat(1), -4);
        due("short of a half is left", less.left(1), 5 * BASE * 1000 - 4 * own);
    }

    /** "1 to 8 numbers: a DAY, 0 to 9999, times 100,000,000, and the FACTOR there by 100, rounded down" */
    private static void told() {
        PillarDesk x = Kit.lines("deposit 91 rate 0");
        Kit.tray(x, 0, 91 * 100_000_000L + 10_000_000);
        due("UNIT by 100", x.shifts(0), 1);
        Kit.tray(x, 0, 91 * 100_000_000L + 9_999_999);
        due("one less", x.shifts(0) & 1, 0);
        Kit.tray(x, 0, 91 * 100_000_000L + 10_000_001);
        due("one more", x.shifts(0), 0);
        Kit.tray(x, 0, 10_000_000L);
        due("day 0", x.shifts(0), 1023);
        Kit.tray(x, 0, 9999 * 100_000_000L + 10_000_000);
        due("day 9999", x.shifts(0), 1);
        x.shift(9);
        long factor = x.factor(9999);
        due("it is rounded", factor % 100 == 0 ? 1 : 0, 0);
        Kit.tray(x, 0, 9999 * 100_000_000L + factor / 100);
        due("shift 9, rounded down", x.shifts(0), 1 << 9);
        Kit.tray(x, 0, 9999 * 100_000_000L + factor / 100 + 1);
        due("not up", x.shifts(0), 0);
    }

    /** "by lot v the RATE of INPUT v that COUNTS is a told b more (each time; 999 at most, 0 at least ..; of others: none)" */
    private static void lots() {
        PillarDesk eight = Kit.told(Kit.HEAD + "deposit 1 rate 0;deposit 2 rate 0;deposit 3 rate 0;deposit 4 rate 0;deposit 7 rate 0;deposit 8 rate 0;"
                + "deposit 9 rate 0;deposit 10 rate 0;opens : 1 = 1;" + "flow 1 plus 99;flow 2 plus 99;flow 3 plus 99;flow 4 plus 99;flow 7 plus 99;"
                + "flow 8 plus 99;flow 9 plus 99;flow 10 plus 99;");
        due("eight of ten lots move", eight.chance(99, 8 * 99, 1, 0), 4);
        due("eight of ten lots move: of so many", eight.chance(99, 8 * 99, 1, 1), 5);
        due("two lots: 64 and 2 * 8 * 2 of 100", eight.chance(99, 8 * 99, 2, 0), 24);
        due("three lots: all but 8 of 1000", eight.chance(99, 8 * 99, 3, 0), 124);
        long sum = 2 * eight.worth();
        for (int i = 0; i < 8; i++) {
            sum += eight.bumped(i, 99);
        }
        due("each lot as likely", eight.mean(99, 1, 0), sum / gcd(sum, 10));
        due("in lowest terms", eight.mean(99, 1, 1), 10 / gcd(sum, 10));
        PillarDesk none = Kit.lines("flow 0 plus 1");
        due("no input: none", none.mean(99, 3, 0), UNIT);
        due("no input: of 1", none.mean(99, 3, 1), 1);
        PillarDesk low = Kit.lines("deposit 800 rate 99", "flow 800 plus 1", ALWAYS);
        long same = low.worth();
        long sum2 = 9 * same + UNIT;
        due("to 0", low.mean(-99, 1, 0), sum2 / gcd(sum2, 10));
        long sum3 = 81 * same + 19 * UNIT;
        due("to 0 and no more", low.mean(-99, 2, 0), sum3 / gcd(sum3, 100));
        PillarDesk high = Kit.lines("deposit 800 rate 900", "flow 800 plus 1", ALWAYS);
        long most = UNIT * BASE / (BASE + 999 * 800);
        long sum4 = 81 * high.worth() + 19 * most;
        due("to 999 and no more", high.mean(99, 2, 0), sum4 / gcd(sum4, 100));
    }

    private static long gcd(long a, long b) {
        return b == 0 ? Math.abs(a) : gcd(b, a % b);
    }

    /** "so many times (1 to 40): DRAW modulo 4 .. as in a TRAY, if it can be", by a second reckoning of the draws */
    private static void weeks() {
        int[] seeds = {0, 1, -1, 7, Integer.MAX_VALUE, Integer.MIN_VALUE, 12345, -1103515245};
        for (int seed : seeds) {
            for (int times : new int[] {1, 2, 39, 40}) {
                PillarDesk x = eightAndTen();
                PillarDesk y = eightAndTen();
                int done = 0;
                java.math.BigInteger[] state = {java.math.BigInteger.valueOf(seed)};
                for (int k = 0; k < times; k++) {
                    Kit.tray(y, 0, drawnDeed(state));
                    done += y.perform(0);
                }
                due("week(" + seed + ", " + times + ")", x.week(seed, times), done);
                due("its rates", x.count(6), y.count(6));
                due("its shift", x.count(5), y.count(5));
                due("its worth", x.worth(), y.worth());
                due("one call", x.count(7), done > 0 ? 1 : 0);
            }
        }
    }

    private static long draw(java.math.BigInteger[] state) {
        java.math.BigInteger two32 = java.math.BigInteger.ONE.shiftLeft(32);
        state[0] = state[0].multiply(java.math.BigInteger.valueOf(1103515245)).add(java.math.BigInteger.valueOf(12345)).mod(two32);
        return state[0].shiftRight(16).longValue();
    }

    private static long drawnDeed(java.math.BigInteger[] state) {
        switch ((int) (draw(state) % 4)) {
            case 0: return 10 + draw(state) % 10;
            case 3: return 10000 + 2000 * (draw(state) % 10) + draw(state) % 1999;
            default: return 1000 + 1000 * (draw(state) % 8) + draw(state) % 199;
        }
    }

    // ---- trays, images

    /** "TRAYS 0 to 3 are MISSING at first" */
    private static void traysMissingAtFirst() {
        PillarDesk x = new PillarDesk();
        for (int t = 0; t < 4; t++) {
            due("judge(" + t + ")", x.judge(t, 0), -6);
            due("perform(" + t + ")", x.perform(t), -6);
            due("shifts(" + t + ")", x.shifts(t), -6);
            due("ask(" + t + ")", x.ask(t), -6);
            due("write(" + t + ")", x.write(t, 0, 1), -6);
            due("lists(" + t + ")", x.lists(t), -6);
            due("a refused one is missing still", x.numbers(t, 0, 41), -3);
            due("it is missing still", x.perform(t), -6);
        }
        for (int t = 0; t < 4; t++) {
            due("of no numbers", x.numbers(t, t, 0), 0);
            due("it isn't missing any more", x.perform(t), 0);
            due("the next one is", x.perform(t + 1), t < 3 ? -6 : -2);
        }
    }

    /** "0 to 40 numbers of 8 bits (sort 0), 16 (1), 32 (2), 64 (3)" */
    private static void traysOfSorts() {
        PillarDesk x = new PillarDesk();
        for (int sort = 0; sort < 4; sort++) {
            int bits = 8 << sort;
            long most = Long.MAX_VALUE >> 64 - bits;
            due("numbers", x.numbers(0, sort, 40), 0);
            due("the most of " + bits, x.write(0, 0, most), most);
            due("one more than the most of " + bits, x.write(0, 0, most + 1), -most - 1);
            due("the least of " + bits, x.write(0, 39, -most - 1), -most - 1);
            due("one less than the least of " + bits, x.write(0, 39, -most - 2), most);
            due("-1 in " + bits, x.write(0, 1, -1), -1);
            due("0 in " + bits, x.write(0, 1, 0), 0);
            due("all ones of " + bits, x.write(0, 1, sort == 3 ? -1 : (1L << bits) - 1), -1);
            due("all of " + bits, x.write(0, 1, sort == 3 ? 0 : 1L << bits), 0);
        }
        // The cut number is what stands there: 266 is 10 in 8 bits, a deed.
        x.numbers(0, 0, 1);
        x.write(0, 0, 266 + 9);
        due("the cut number is a deed", x.perform(0), 1);
        due("and is done", x.count(5), 9);
    }

    /** "THE DESK and what a call could bring back by UNDOING; nothing can be UNDONE behind (none at first)" */
    private static void images() {
        PillarDesk x = Kit.lines("deposit 5 rate 100", "flow 3 plus 3");
        due("none at first", x.restore(0), -5);
        due("none at first", x.restore(1), -5);
        x.bump(0, 7);
        x.image(0);
        due("an image takes nothing that can be undone", x.count(7), 1);
        x.shift(5);
        x.amount(0, 9);
        due("restored", x.restore(0), 0);
        due("nothing can be undone behind", x.undo(1), -3);
        due("the rate", x.input(0, 5), 107);
        due("the shift", x.count(5), 0);
        due("the amount", x.flow(0, 1), 3);
        due("the other wasn't made", x.restore(1), -5);
        x.shift(4);
        due("deeds behind can be", x.undo(1), 0);
    }
}
