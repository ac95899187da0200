/**
 * Nothing of what was told, asked or done earlier on an object is left in what it answers later: of each pair of
 * objects one has a past, the other has none.
 */
public final class LeftoverTest {
    private static final long UNIT = 1_000_000_000L;
    private static final long BASE = 3_600_000L;
    private static final String EARLIER = "desk first 3 curve 1 shift 9;holiday 3;holiday 14;swap 900 every 30 rate 700;swap 800 every 40 rate 9;"
            + "forward 5 600 rate 90;deposit 20 rate 999;swap 700 every 30 rate 2;swap 650 every 30 rate 3;swap 640 every 30 rate 4;"
            + "swap 999 every 30 rate 5;flow 3 minus 9;flow 800 plus 777;flow 1 plus 1;rates : 5 + kind * 7;opens : week < 3 or date = 14;";
    private static final String[] LATER = {Kit.HEAD, Kit.HEAD + "deposit 14 rate 400;", Kit.HEAD + "flow 9 plus 3;",
        Kit.HEAD + "holiday 4;deposit 91 rate 400;deposit 182 rate 300;flow 100 plus 7;",
        "desk first 6 curve 1 shift 2;forward 7 91 rate 300;swap 182 every 60 rate 400;flow 182 plus 7;",
        Kit.HEAD + "deposit 14 rate 400;rates : told * 2;", Kit.HEAD + "deposit 13 rate 400;flow 13 minus 3;opens : date > 20;"};

    public static void main(String[] args) {
        anotherDesk();
        lawsAreStruck();
        manyLongLaws();
        anotherCalendar();
        solvedAnewBehindADesk();
        solvedAnewBehindARestore();
        solvedAnewBehindAnUndo();
        solvedAnewBehindDeeds();
        leftIsAskedFirst();
        everyIsAskedOfADeposit();
        faultsLeaveNoTrace();
        traysRenewed();
        fewerPillars();
        shorterLaw();
        fewerPeriodsBetween();
        Kit.end();
    }

    private static void due(String call, long got, long want) {
        Kit.due(call, got, want);
    }

    /** The object has read EARLIER, and all that it keeps has been asked for. */
    private static PillarDesk used() {
        PillarDesk x = Kit.told(EARLIER);
        askAll(x);
        x.week(7, 40);
        askAll(x);
        return x;
    }

    private static void askAll(PillarDesk x) {
        for (int d = 0; d < 40; d++) {
            x.open(d);
        }
        x.opens(0, 999);
        x.worth();
        x.mover();
        x.flat(1);
        x.left(1);
        x.mean(9, 3, 0);
    }

    /** "The first n bytes of THE TAPE are THE DESK": no more than these. */
    private static void anotherDesk() {
        for (String text : LATER) {
            PillarDesk x = used();
            due(text, Kit.tell(x, text) > 0 ? 1 : 0, 1);
            Twin.alike("told on a used object: " + text, x, Kit.told(text));
        }
    }

    private static void lawsAreStruck() {
        PillarDesk x = Kit.lines("deposit 5 rate 70", "rates : 5", "opens : date = 3");
        due("a law of rates", x.input(0, 6), 5);
        due("a law of opens", x.opens(0, 9), 1);
        Kit.tell(x, Kit.HEAD + "deposit 5 rate 70;");
        due("no law of rates", x.input(0, 6), 70);
        due("no law of opens", x.opens(0, 9), 7);
        Kit.tell(x, Kit.HEAD + "deposit 5 rate 70;rates : 6;");
        due("a law of rates alone", x.input(0, 6), 6);
        due("still no law of opens", x.opens(0, 9), 7);
        Kit.tell(x, Kit.HEAD + "deposit 5 rate 70;opens : date = 3;");
        due("a law of opens alone", x.opens(0, 9), 1);
        due("no law of rates again", x.input(0, 6), 70);
    }

    /** As much law as a text can have, told again and again. */
    private static void manyLongLaws() {
        PillarDesk x = new PillarDesk();
        for (int k = 0; k < 8; k++) {
            String law = "rates : " + "1+".repeat(400) + k + ";";
            due("a long law", Kit.tell(x, Kit.HEAD + "deposit 5 rate 70;" + law), 3);
            due("a long law counts", x.input(0, 6), 400 + k);
        }
    }

    private static void anotherCalendar() {
        PillarDesk x = new PillarDesk();
        due("open", x.open(3), 1);
        due("put off", x.off(5), 7);
        x.image(0);
        Kit.tell(x, "desk first 3 curve 0 shift 0;holiday 7;");
        due("the end of the week", x.open(3), 0);
        due("a holiday", x.open(7), 0);
        due("put off by another calendar", x.off(2), 4);
        x.restore(0);
        due("open again", x.open(3), 1);
        due("put off as it was", x.off(5), 7);
    }

    private static long depositFactor(long rate) {
        return UNIT * BASE / (BASE + rate * 91);
    }

    private static void solvedAnewBehindADesk() {
        PillarDesk x = Kit.lines("deposit 91 rate 400", "flow 91 plus 1");
        due("solved", x.worth(), depositFactor(400));
        Kit.tell(x, Kit.HEAD + "deposit 91 rate 500;flow 91 plus 1;");
        due("solved anew behind desk()", x.worth(), depositFactor(500));
        Kit.tell(x, Kit.HEAD + "deposit 91 rate 600;flow 91 plus 1;");
        due("counted anew behind desk()", x.input(0, 6), 600);
    }

    private static void solvedAnewBehindARestore() {
        PillarDesk x = Kit.lines("deposit 91 rate 400", "flow 91 plus 1");
        x.image(1);
        x.bump(0, 50);
        due("bumped", x.worth(), depositFactor(450));
        x.restore(1);
        due("solved anew behind restore()", x.worth(), depositFactor(400));
        x.shift(9);
        due("shifted", x.factor(91), depositFactor(409));
        x.restore(1);
        due("solved anew behind restore(): a factor", x.factor(91), depositFactor(400));
    }

    private static void solvedAnewBehindAnUndo() {
        PillarDesk x = Kit.lines("deposit 91 rate 400", "flow 91 plus 1");
        x.bump(0, 50);
        due("bumped", x.worth(), depositFactor(450));
        x.undo(1);
        due("solved anew behind undo()", x.worth(), depositFactor(400));
        x.shift(4);
        due("shifted", x.pillar(1, 1), depositFactor(404));
        x.undo(1);
        due("solved anew behind undo(): a pillar", x.pillar(1, 1), depositFactor(400));
    }

    private static void solvedAnewBehindDeeds() {
        PillarDesk x = Kit.lines("deposit 91 rate 400", "flow 91 plus 1");
        due("solved", x.worth(), depositFactor(400));
        x.bump(0, 1);
        due("behind bump()", x.worth(), depositFactor(401));
        x.shift(1);
        due("behind shift()", x.worth(), depositFactor(402));
        x.amount(0, 2);
        due("behind amount()", x.worth(), 2 * depositFactor(402));
        Kit.tray(x, 0, 1100, 12, 1500);
        due("behind judge()", x.judge(0, 0), 2);
        due("judged as if done", x.worth(), 2 * depositFactor(402));
        due("two are done", x.perform(0), 2);
        due("behind perform()", x.worth(), 2 * depositFactor(404));
        x.week(0, 1);
        due("behind week()", x.factor(91), depositFactor(408));
    }

    /** "LEFT on a PILLAR: q with all that is taken", though flat() was never asked. */
    private static void leftIsAskedFirst() {
        long hang = 9000 * BASE * 1000;
        long own = 1000 * (BASE + 400 * 91);
        long taken = -Math.floorDiv(2 * hang + own, 2 * own);
        PillarDesk x = Kit.lines("deposit 91 rate 400", "flow 91 plus 9");
        due("left alone", x.left(1), hang + taken * own);
        x.bump(0, 7);
        long own2 = 1000 * (BASE + 407 * 91);
        long taken2 = -Math.floorDiv(2 * hang + own2, 2 * own2);
        due("left behind a bump", x.left(1), hang + taken2 * own2);
        x.bump(0, -7);
        due("flat behind a bump", x.flat(1), taken);
    }

    /** "7: every how many days (0)" */
    private static void everyIsAskedOfADeposit() {
        PillarDesk x = Kit.lines("swap 90 every 30 rate 5");
        due("a swap", x.input(0, 7), 30);
        Kit.tell(x, Kit.HEAD + "deposit 90 rate 5;");
        due("a deposit in its place", x.input(0, 7), 0);
        due("it has no periods", x.period(0, 0), -2);
        Kit.tell(x, Kit.HEAD + "forward 9 90 rate 5;");
        due("a forward in its place", x.input(0, 1), 9);
        Kit.tell(x, Kit.HEAD + "deposit 90 rate 5;");
        due("a deposit in its place starts at day 0", x.input(0, 1), 0);
    }

    /** "all stays with a FAULT", and a text read behind it has nothing of the one with the FAULT. */
    private static void faultsLeaveNoTrace() {
        String[] broken = {EARLIER + "?", EARLIER + "holiday", "desk first 5 curve 1 shift 7;opens : date = 3", "desk first 5 curve 1 shift 7;flow 5 plus 5;rates : 5"};
        for (String text : broken) {
            PillarDesk x = Kit.told(LATER[3]);
            due(text, Kit.tell(x, text) < -30 ? 1 : 0, 1);
            Twin.alikeButTape("behind a fault: " + text, x, Kit.told(LATER[3]));
            PillarDesk y = new PillarDesk();
            Kit.tell(y, text);
            Twin.alikeButTape("no desk, behind a fault: " + text, y, new PillarDesk());
            for (String later : LATER) {
                PillarDesk z = new PillarDesk();
                Kit.tell(z, text);
                Kit.tell(z, later);
                Twin.alike("told behind a fault: " + later, z, Kit.told(later));
            }
        }
    }

    /** "A TRAY has n numbers of a sort, all 0 (in place of another one)" */
    private static void traysRenewed() {
        PillarDesk x = new PillarDesk();
        for (int sort = 0; sort < 4; sort++) {
            x.numbers(0, 3, 40);
            for (int k = 0; k < 40; k++) {
                x.write(0, k, 15);
            }
            x.numbers(0, sort, 40);
            due("the first is 0", x.judge(0, 0), 0);
            for (int k = 0; k < 39; k++) {
                x.write(0, k, 15);
                due("the next is 0", x.judge(0, 0), k + 1);
            }
            x.numbers(0, sort, 1);
            x.write(0, 0, 15);
            due("there is no next", x.judge(0, 0), -1);
        }
    }

    private static final String NINE = "deposit 7 rate 1;deposit 14 rate 2;deposit 21 rate 3;deposit 28 rate 4;deposit 35 rate 5;deposit 42 rate 6;"
            + "deposit 49 rate 7;deposit 56 rate 8;";

    /** A desk with the most pillars there can be, then one with fewer: none of the earlier ones is seen. */
    private static void fewerPillars() {
        PillarDesk x = Kit.told(Kit.HEAD + NINE);
        due("nine pillars", x.pillars(), 9);
        due("nine pillars are sound", x.sound(), 1);
        Kit.tray(x, 0, 10_000_000L);
        due("nine pillars: the first that tells all", x.ask(0), 7);
        due("nine pillars listed", listed(x), 9);
        // The factor of the earlier pillar at day 21 was above that of the later one at day 14.
        Kit.tell(x, Kit.HEAD + "deposit 7 rate 900;deposit 14 rate 900;rates : 900;");
        due("three pillars", x.pillars(), 3);
        due("three pillars are sound", x.sound(), 1);
        due("none of three tells anything: day 0", x.ask(0), 0);
        due("three pillars listed", listed(x), 3);
        due("moves none behind the last", x.moves(1), 0b100);
        Kit.tell(x, Kit.HEAD);
        due("day 0 alone is sound", x.sound(), 1);
        due("day 0 alone", x.ask(0), 0);
        due("day 0 alone listed", listed(x), 1);
    }

    private static int listed(PillarDesk x) {
        x.numbers(1, 3, 40);
        return x.lists(1);
    }

    /** A law that ends where an earlier one went on. */
    private static void shorterLaw() {
        PillarDesk x = Kit.lines("opens : not 1 = 1");
        due("not", x.open(0), 0);
        Kit.tell(x, Kit.HEAD + "opens : 1 = 1;");
        due("without not", x.open(0), 1);
        Kit.tell(x, Kit.HEAD + "deposit 5 rate 70;rates : if 1 = 2 then 3 else 4 end;");
        due("if", x.input(0, 6), 4);
        Kit.tell(x, Kit.HEAD + "deposit 5 rate 70;rates : 1;");
        due("without if", x.input(0, 6), 1);
    }

    /** Many periods end between the first two pillars, then fewer between the next two: each is met by its own. */
    private static void fewerPeriodsBetween() {
        PillarDesk x = Kit.lines("swap 364 every 30 rate 600", "swap 728 every 91 rate 500", "swap 910 every 130 rate 400", "opens : 1 = 1");
        int[] rates = {600, 500, 400};
        for (int i = 0; i < 3; i++) {
            long f = x.pillar(i + 1, 1);
            due("swap " + i + ": the greatest holds", swapCost(x, i, rates[i], f) <= UNIT ? 1 : 0, 1);
            due("swap " + i + ": one more doesn't", swapCost(x, i, rates[i], f + 1) <= UNIT ? 1 : 0, 0);
        }
    }

    /** "f and the sum, divided by BASE, rounded down, of the DUE of each of its periods times the FACTOR at its end" */
    private static long swapCost(PillarDesk x, int i, long rate, long f) {
        long a = x.pillar(i, 0);
        long b = x.pillar(i + 1, 0);
        long early = x.pillar(i, 1);
        long sum = 0;
        int from = 0;
        for (int k = 0; x.period(i, k) != -1; k++) {
            int day = x.period(i, k);
            long factor = day <= a ? x.factor(day) : early + Math.floorDiv((f - early) * (day - a), b - a);
            sum += rate * (day - from) * factor;
            from = day;
        }
        return f + Math.floorDiv(sum, BASE);
    }
}
