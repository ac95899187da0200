/**
 * The edges of promises 1 to 44: for each call the least and the greatest that it takes, what it answers beyond, which of
 * several codes it tells, and that a refused call changes nothing.
 */
public final class CallEdgeTest {
    private static final long UNIT = 1_000_000_000L;
    private static final int LEAST = Integer.MIN_VALUE;
    private static final int MOST = Integer.MAX_VALUE;
    private static final int BLANKS = 0x20202020;
    private static final long FAR = Kit.FAR;

    public static void main(String[] args) {
        feed();
        desk();
        deskThatIsRead();
        fault();
        input();
        flow();
        openAndOff();
        opens();
        business();
        period();
        bump();
        shift();
        amount();
        undo();
        judge();
        judgedToTheEdge();
        perform();
        week();
        pillar();
        factorAndForward();
        implied();
        soundFallsMoves();
        moveBumpedMover();
        breaks();
        breaksByOne();
        hangFlatLeft();
        shifts();
        ask();
        chance();
        mean();
        lowestTerms();
        numbers();
        write();
        lists();
        image();
        restore();
        count();
        asIfDone();
        theLastCall();
        Kit.end();
    }

    private static void due(String call, long got, long want) {
        Kit.due(call, got, want);
    }

    // ---- 1 to 6

    private static PillarDesk fed(int bytes) {
        PillarDesk x = Twin.full();
        x.desk(0);
        for (int k = 20; k <= bytes; k += 20) {
            due("2: feed", x.feed(BLANKS, BLANKS, BLANKS, BLANKS, BLANKS), k);
        }
        return x;
    }

    /** "-5: it would have more than 900", "the highest of each int first" */
    private static void feed() {
        due("2: the 900th byte", fed(880).feed(0, 0, 0, 0, 0), 900);
        Twin.refused("2: feed beyond 900", -5, () -> fed(900), x -> x.feed(0x64657370, 1, 2, 3, -4));
        PillarDesk x = new PillarDesk();
        due("2: twenty", x.feed(0x6465736b, 0x20666972, 0x73742030, 0x20637572, 0x76652031), 20);
        due("2: forty", x.feed(0x20736869, 0x66742037, 0x3b000000, MOST, LEAST), 40);
        due("2: the highest byte first", x.desk(29), 1);
        due("2: curve", x.count(4), 1);
        due("2: shift", x.count(5), 7);
        PillarDesk high = new PillarDesk();
        high.feed(-1, -1, -1, -1, -1);
        due("2: bytes above 127", high.desk(20), -31);
    }

    /** "-3: n is below 0 or above what there is (THE TAPE stays)" */
    private static void desk() {
        Twin.refused("3: desk(-1)", -3, x -> x.desk(-1));
        Twin.refused("3: desk(least)", -3, x -> x.desk(LEAST));
        Twin.refused("3: desk(most)", -3, x -> x.desk(MOST));
        Twin.refused("3: desk of one more than there is", -3, x -> x.desk(x.count(8) + 1));
        Twin.refused("3: desk(1) of an empty tape", -3, () -> fed(0), x -> x.desk(1));
        PillarDesk x = Twin.full();
        due("3: all that there is", x.desk(x.count(8)), 3);
        due("3: desk(0) of an empty tape is read", x.desk(0), -32);
        Kit.feed(x, Kit.HEAD);
        due("3: desk(0) is read", x.desk(0), -32);
        due("3: the tape is empty then", x.count(8), 0);
    }

    /** "(which is empty then) are THE DESK, nothing can be UNDONE .. all stays with a FAULT" */
    private static void deskThatIsRead() {
        PillarDesk x = Twin.full();
        due("3: calls can be undone", x.count(7), 3);
        due("3: a fault", x.desk(10), -32);
        due("3: the tape is empty then, too", x.count(8), 0);
        due("3: with a fault what can be undone stays", x.count(7), 3);
        due("3: read", Kit.tell(x, Kit.HEAD + "deposit 5 rate 7;"), 2);
        due("3: nothing can be undone", x.undo(1), -3);
        due("3: nothing of the desk ahead", x.count(1) + x.count(2), 0);
        due("3: its holiday is gone", x.open(9), 1);
        due("3: trays stay", x.judge(0, 0), 2);
        due("3: images stay", x.restore(0), 0);
        PillarDesk all = new PillarDesk();
        Kit.feed(all, Kit.HEAD + "holiday 1;holiday 2;");
        due("3: what lies behind n is gone, too", all.desk(Kit.HEAD.length()), 1);
        due("3: none on the tape", all.count(8), 0);
        due("3: the tape begins anew", all.feed(BLANKS, BLANKS, BLANKS, BLANKS, BLANKS), 20);
    }

    /** "Of the latest desk() that was read, what 0: its FAULT (0), 1: its place (NONE). NONE for others." */
    private static void fault() {
        PillarDesk x = new PillarDesk();
        due("4: none was read: 0", x.fault(0), 0);
        due("4: none was read: NONE", x.fault(1), -1);
        Kit.tell(x, "desk first 9");
        due("4: its fault", x.fault(0), 3);
        due("4: its place", x.fault(1), 11);
        due("4: refused, so not read", x.desk(1), -3);
        due("4: the one ahead of it", x.fault(0), 3);
        due("4: the one ahead of it", x.fault(1), 11);
        for (int what : new int[] {-1, 2, LEAST, MOST}) {
            Twin.unchanged("4: fault(" + what + ")", -1, Twin::full, y -> y.fault(what));
        }
        Kit.tell(x, Kit.HEAD);
        due("4: 0", x.fault(0), 0);
        due("4: NONE", x.fault(1), -1);
        Kit.tell(x, "?");
        due("4: at place 0", x.fault(1), 0);
    }

    private static void input() {
        int last = Twin.full().count(0) - 1;
        due("5: the last input", Twin.full().input(last, 0), 2);
        due("5: the last what", Twin.full().input(0, 8), 0);
        for (int i : new int[] {-1, last + 1, 8, LEAST, MOST}) {
            Twin.refused("5: input(" + i + ", 0)", -2, x -> x.input(i, 0));
        }
        for (int what : new int[] {-1, 9, LEAST, MOST}) {
            Twin.refused("5: input(0, " + what + ")", -2, x -> x.input(0, what));
        }
        PillarDesk x = Kit.lines("deposit 5 rate 1", "forward 0 12 rate 1", "swap 6 every 30 rate 1", "opens : date > 2");
        due("5: the start of a deposit, (0)", x.input(0, 1), 0);
        due("5: the start of a deposit is day 0 itself", x.input(0, 3), 0);
        due("5: the start of a swap, (0)", x.input(2, 1), 0);
        due("5: the start of a swap is day 0 itself", x.input(2, 3), 0);
        due("5: the start of a forward as told", x.input(1, 1), 0);
        due("5: the start of a forward is put off", x.input(1, 3), 3);
        due("5: every: a deposit (0)", x.input(0, 7), 0);
        due("5: every: a forward (0)", x.input(1, 7), 0);
        due("5: every: a swap", x.input(2, 7), 30);
        PillarDesk early = Kit.lines("deposit 2 rate 50", "opens : date > 2");
        due("5: day 0 itself in all else: implied", early.implied(0), 50);
        due("5: day 0 itself in all else: the days", early.pillar(1, 1), UNIT * 3_600_000 / (3_600_000 + 50 * 3));
        due("5: an end at the day to which day 0 would be put off is met", early.input(0, 8), 0);
    }

    private static void flow() {
        int last = Twin.full().count(1) - 1;
        due("6: the last flow", Twin.full().flow(last, 1), 88);
        for (int k : new int[] {-1, last + 1, 10, LEAST, MOST}) {
            Twin.refused("6: flow(" + k + ", 0)", FAR - 2, x -> x.flow(k, 0));
        }
        for (int what : new int[] {-1, 2, LEAST, MOST}) {
            Twin.refused("6: flow(0, " + what + ")", FAR - 2, x -> x.flow(0, what));
        }
    }

    // ---- 7 to 11

    private static void openAndOff() {
        due("7: open(0)", Twin.full().open(0), 1);
        due("7: open(9999)", Twin.full().open(9999), 1);
        due("8: off(0)", Twin.full().off(0), 0);
        due("8: off(9999)", Twin.full().off(9999), 9999);
        due("8: off(9997), behind 9999 too", Kit.lines("opens : date > 999 * 10 + 11").off(9997), 10002);
        for (int d : new int[] {-1, 10000, LEAST, MOST}) {
            Twin.refused("7: open(" + d + ")", -3, x -> x.open(d));
            Twin.refused("8: off(" + d + ")", -3, x -> x.off(d));
        }
    }

    /** "from a (0 to 999) to b (a to 999), b aside" */
    private static void opens() {
        PillarDesk x = Kit.lines("opens : 1 = 1");
        due("9: all", x.opens(0, 999), 999);
        due("9: none", x.opens(0, 0), 0);
        due("9: one", x.opens(0, 1), 1);
        due("9: the last", x.opens(998, 999), 1);
        due("9: none at the end", x.opens(999, 999), 0);
        PillarDesk only = Kit.lines("opens : date = 50");
        due("9: a too", only.opens(50, 51), 1);
        due("9: b aside", only.opens(49, 50), 0);
        int[][] beyond = {{-1, 5}, {LEAST, 5}, {1000, 1000}, {1000, 999}, {MOST, MOST}, {5, 4}, {5, -1}, {0, 1000}, {0, MOST}, {0, LEAST}, {-1, -1}};
        for (int[] ab : beyond) {
            Twin.refused("9: opens(" + ab[0] + ", " + ab[1] + ")", -3, y -> y.opens(ab[0], ab[1]));
        }
    }

    /** "(0 to 999; n 1 to 99). NONE: there are none such within 999 days more" */
    private static void business() {
        PillarDesk x = Kit.lines("opens : 1 = 1");
        due("10: the first", x.business(0, 1), 1);
        due("10: the 99th", x.business(0, 99), 99);
        due("10: the 99th behind the last", x.business(999, 99), 1098);
        int[][] beyond = {{-1, 1}, {LEAST, 1}, {1000, 1}, {MOST, 1}, {0, 0}, {0, -1}, {0, 100}, {0, LEAST}, {0, MOST}, {999, 100}};
        for (int[] dn : beyond) {
            Twin.refused("10: business(" + dn[0] + ", " + dn[1] + ")", -3, y -> y.business(dn[0], dn[1]));
        }
        PillarDesk late = Kit.lines("opens : date = 999 or date = 999 * 2 - 1 or date = 999 * 2");
        due("10: 999 days more", late.business(0, 1), 999);
        due("10: not itself", late.business(999, 1), 1997);
        due("10: the second, 999 days more", late.business(999, 2), 1998);
        due("10: no third", late.business(999, 3), -1);
        due("10: 1000 days more", Kit.lines("opens : date = 999 + 1").business(0, 1), -1);
        due("10: 999 days more", Kit.lines("opens : date = 999 + 1").business(1, 1), 1000);
        due("10: n ahead of NONE", Kit.lines("opens : 1 = 2").business(0, 100), -3);
        due("10: never", Kit.lines("opens : 1 = 2").business(0, 1), -1);
        PillarDesk rare = Kit.lines("opens : date < 100");
        due("10: ninety-nine", rare.business(0, 99), 99);
        due("10: too few", rare.business(1, 99), -1);
    }

    /** "NONE: not so many; -2: no swap; -3: k is below 0" */
    private static void period() {
        int swap = 3;
        PillarDesk x = Twin.full();
        due("11: the first", x.period(swap, 0), 91);
        due("11: the last", x.period(swap, 3), 364);
        for (int k : new int[] {4, 34, MOST}) {
            Twin.unchanged("11: period(3, " + k + ")", -1, Twin::full, y -> y.period(swap, k));
        }
        for (int k : new int[] {-1, LEAST}) {
            Twin.refused("11: period(3, " + k + ")", -3, y -> y.period(swap, k));
        }
        for (int i : new int[] {-1, 0, 2, 4, 8, LEAST, MOST}) {
            Twin.refused("11: period(" + i + ", 0)", -2, y -> y.period(i, 0));
            Twin.refused("11: -2 ahead of -3: " + i, -2, y -> y.period(i, -1));
            Twin.refused("11: -2 ahead of NONE: " + i, -2, y -> y.period(i, 99));
        }
    }

    // ---- 12 to 18

    private static void bump() {
        due("12: the most", Twin.full().bump(0, 99), 504);
        due("12: the least", Twin.full().bump(0, -99), 306);
        due("12: the last input", Twin.full().bump(3, 1), 501);
        for (int n : new int[] {-100, 100, LEAST, MOST}) {
            Twin.refused("12: bump(0, " + n + ")", -11, x -> x.bump(0, n));
        }
        for (int i : new int[] {-1, 4, 8, LEAST, MOST}) {
            Twin.refused("12: bump(" + i + ", 1)", -11, x -> x.bump(i, 1));
        }
        due("12: to 0", Twin.full().bump(1, -7), 0);
        Twin.refused("12: below 0", -12, x -> x.bump(1, -8));
        Twin.refused("12: -11 ahead of -12", -11, x -> x.bump(1, -100));
    }

    private static void shift() {
        due("13: 0", Twin.full().shift(0), 2);
        due("13: 9", Twin.full().shift(9), 2);
        for (int n : new int[] {-1, 10, LEAST, MOST}) {
            Twin.refused("13: shift(" + n + ")", -11, x -> x.shift(n));
        }
        PillarDesk x = new PillarDesk();
        due("13: what it was", x.shift(9), 0);
        due("13: what it was", x.shift(0), 9);
    }

    private static void amount() {
        due("14: -999", Twin.full().amount(0, -999), 0);
        due("14: 999", Twin.full().amount(1, 999), 0);
        for (int n : new int[] {-1000, 1000, LEAST, MOST}) {
            Twin.refused("14: amount(0, " + n + ")", -11, x -> x.amount(0, n));
        }
        for (int k : new int[] {-1, 2, 10, LEAST, MOST}) {
            Twin.refused("14: amount(" + k + ", 1)", -11, x -> x.amount(k, 1));
        }
    }

    /** "n calls (1 to 10) are UNDONE .. -3: n, more than can be" */
    private static void undo() {
        due("15: all that can be", Twin.full().undo(3), 0);
        due("15: one", Twin.full().undo(1), 2);
        for (int n : new int[] {0, -1, 4, 10, 11, LEAST, MOST}) {
            Twin.refused("15: undo(" + n + ")", -3, x -> x.undo(n));
        }
        PillarDesk ten = Twin.full();
        for (int k = 0; k < 10; k++) {
            ten.shift(k);
        }
        due("15: eleven", ten.undo(11), -3);
        due("15: ten", ten.undo(10), 0);
        due("15: as it was", ten.count(5), 2);
        Twin.refused("15: none can be", -3, PillarDesk::new, x -> x.undo(1));
    }

    private static void judge() {
        due("16: the last what", Twin.full().judge(0, 3) > 0 ? 1 : 0, 1);
        for (int what : new int[] {-1, 4, LEAST, MOST}) {
            Twin.refused("16: judge(0, " + what + ")", -2, x -> x.judge(0, what));
            Twin.refused("16: -2 ahead of -6", -2, x -> x.judge(2, what));
        }
        for (int t : new int[] {-1, 4, LEAST, MOST}) {
            Twin.refused("16: judge(" + t + ", 0)", -2, x -> x.judge(t, 0));
            Twin.refused("17: perform(" + t + ")", -2, x -> x.perform(t));
        }
        for (int what = 0; what < 4; what++) {
            int asked = what;
            Twin.refused("16: judge of a missing tray", -6, x -> x.judge(2, asked));
        }
        Twin.refused("17: perform of a missing tray", -6, x -> x.perform(2));
    }

    /** "the first place that can't be (NONE), 1: why (0)" */
    private static void judgedToTheEdge() {
        PillarDesk x = Kit.lines("deposit 91 rate 99", "flow 3 plus 3");
        Kit.tray(x, 0, 9, 15);
        due("16: the first of all", x.judge(0, 0), 0);
        due("16: all rates, none is done", x.judge(0, 2), 99);
        Kit.tray(x, 0, 1000, 1000, 15);
        due("16: judged behind those ahead", x.judge(0, 0), 1);
        due("16: why", x.judge(0, 1), 2);
        due("16: rates then", x.judge(0, 2), 0);
        due("16: the factor at rate 0", x.judge(0, 3), 1_000_000);
        Kit.tray(x, 0, 1000, 1198, 15);
        due("16: NONE", x.judge(0, 0), -1);
        due("16: 0", x.judge(0, 1), 0);
        x.numbers(1, 3, 40);
        for (int k = 0; k < 40; k++) {
            x.write(1, k, 10 + k % 10);
        }
        due("16: forty that can be", x.judge(1, 0), -1);
        x.write(1, 39, 9);
        due("16: the fortieth can't be", x.judge(1, 0), 39);
        due("17: thirty-nine", x.perform(1), 39);
        due("16: no pillar behind day 0", emptyTray(new PillarDesk()).judge(0, 3), 1_000_000);
        due("16: no rate", emptyTray(new PillarDesk()).judge(0, 2), 0);
    }

    private static PillarDesk emptyTray(PillarDesk x) {
        x.numbers(0, 3, 0);
        return x;
    }

    private static void perform() {
        PillarDesk x = Twin.full();
        due("17: till one can't be", x.perform(0), 3);
        due("17: and none behind it", x.count(5), 3);
        due("17: all forty", x.perform(3), 40);
        due("17: the last of them", x.count(5), 9);
        Twin.unchanged("17: of no numbers", 0, () -> emptyTray(Twin.full()), y -> y.perform(0));
        Twin.unchanged("17: none can be", 0, () -> oneDeed(9), y -> y.perform(0));
    }

    private static PillarDesk oneDeed(long v) {
        PillarDesk x = Twin.full();
        Kit.tray(x, 0, v, 15);
        return x;
    }

    /** "-3: how many times" (1 to 40) */
    private static void week() {
        due("18: once", new PillarDesk().week(0, 1), 1);
        due("18: forty times", Twin.full().week(3, 40) > 0 ? 1 : 0, 1);
        for (int times : new int[] {0, -1, 41, LEAST, MOST}) {
            Twin.refused("18: week(5, " + times + ")", -3, x -> x.week(5, times));
        }
        Twin.unchanged("18: none could be", 0, PillarDesk::new, x -> x.week(1, 3));
    }

    // ---- 19 to 26

    private static void pillar() {
        PillarDesk x = Twin.full();
        due("19: pillars", x.pillars(), 4);
        due("19: day 0 alone", new PillarDesk().pillars(), 1);
        due("20: the last", x.pillar(3, 2), 3);
        due("20: day 0: NONE", x.pillar(0, 2), -1);
        for (int k : new int[] {-1, 4, 9, LEAST, MOST}) {
            Twin.refused("20: pillar(" + k + ", 0)", -2, y -> y.pillar(k, 0));
        }
        for (int what : new int[] {-1, 3, LEAST, MOST}) {
            Twin.refused("20: pillar(0, " + what + ")", -2, y -> y.pillar(0, what));
        }
    }

    private static void factorAndForward() {
        PillarDesk x = Twin.full();
        due("21: factor(0)", x.factor(0), UNIT);
        due("21: factor(9999)", x.factor(9999), x.pillar(3, 1));
        due("22: the first day", x.forward(0, 1), (UNIT - x.factor(1)) * 3_600_000 / x.factor(1));
        due("22: the last day", x.forward(9998, 9999), 0);
        due("22: all days", x.forward(0, 9999), (UNIT - x.factor(9999)) * 3_600_000 / (9999L * x.factor(9999)));
        for (int d : new int[] {-1, 10000, LEAST, MOST}) {
            Twin.refused("21: factor(" + d + ")", -3, y -> y.factor(d));
        }
        int[][] beyond = {{-1, 5}, {LEAST, 5}, {5, 5}, {5, 4}, {9998, 9998}, {9998, 10000}, {9999, 10000}, {9999, 9999}, {0, 10000}, {0, MOST}, {MOST, LEAST},
            {0, 0}, {0, -1}};
        for (int[] ab : beyond) {
            Twin.refused("22: forward(" + ab[0] + ", " + ab[1] + ")", -3, y -> y.forward(ab[0], ab[1]));
        }
    }

    /** "-2; -5: its start, PUT OFF, isn't earlier than its end (a forward)" */
    private static void implied() {
        PillarDesk x = Kit.lines("forward 27 28 rate 77", "forward 26 28 rate 5", "deposit 28 rate 9", "opens : date > 26");
        due("23: one day earlier", x.implied(0), 77);
        due("23: put off, one day earlier", x.implied(1), 77);
        due("23: an unmet deposit", x.implied(2), x.forward(0, 28));
        Twin.refused("23: not earlier", -5, () -> Kit.lines("forward 26 28 rate 5", "deposit 91 rate 6"), y -> y.implied(0));
        due("23: none is met", Kit.lines("forward 26 28 rate 5").implied(0), -5);
        for (int i : new int[] {-1, 4, 8, LEAST, MOST}) {
            Twin.refused("23: implied(" + i + ")", -2, y -> y.implied(i));
        }
        PillarDesk full = Twin.full();
        due("23: the last input", full.implied(3), impliedByWords(full, 3));
        PillarDesk one = Kit.lines("swap 800 every 999 rate 500", "opens : 1 = 1");
        due("23: a swap of one period, no rest", one.implied(0), 500);
        PillarDesk near = Kit.lines("swap 272 every 999 rate 201", "opens : 1 = 1");
        due("23: a swap, 96 short of 201 times what divides", (UNIT - near.factor(272)) * 3_600_000 - 201 * (272L * near.factor(272)), -96);
        due("23: rounded down", near.implied(0), 200);
        due("22: rounded down", near.forward(0, 272), 200);
    }

    /** "UNIT less the FACTOR at its end, times BASE, divided by the days of its periods times the FACTORS at their ends, added" */
    private static long impliedByWords(PillarDesk x, int swap) {
        long below = 0;
        int from = 0;
        for (int k = 0; x.period(swap, k) != -1; k++) {
            int end = x.period(swap, k);
            below += (long) (end - from) * x.factor(end);
            from = end;
        }
        return (UNIT - x.factor(from)) * 3_600_000 / below;
    }

    /** "Whether no PILLAR's FACTOR is above that of the one ahead", "(999 at most). -2; -3." */
    private static void soundFallsMoves() {
        due("24: like factors", Kit.lines("deposit 7 rate 0", "deposit 14 rate 0").sound(), 1);
        // A factor one above the one ahead of it: 3,600,000 * 1e9 / 3,600,014, and / 3,600,000 ahead of all.
        due("24: above", Kit.lines("deposit 7 rate 2", "deposit 14 rate 0").sound(), 0);
        due("24: the second above the first", Kit.lines("deposit 7 rate 2", "deposit 14 rate 1").sound(), 1);
        due("24: the last alone", Kit.lines("deposit 7 rate 2", "deposit 14 rate 3", "deposit 21 rate 0").sound(), 0);
        PillarDesk x = Twin.full();
        due("25: day 0", x.falls(0, 0), 0);
        due("25: day 9999", x.falls(3, 9999), x.falls(3, 364));
        for (int i : new int[] {-1, 4, 8, LEAST, MOST}) {
            Twin.refused("25: falls(" + i + ", 5)", -2, y -> y.falls(i, 5));
            Twin.refused("25: -2 ahead of -3", -2, y -> y.falls(i, -1));
            Twin.refused("26: moves(" + i + ")", -2, y -> y.moves(i));
        }
        for (int d : new int[] {-1, 10000, LEAST, MOST}) {
            Twin.refused("25: falls(0, " + d + ")", -3, y -> y.falls(0, d));
        }
        PillarDesk most = Kit.lines("deposit 91 rate 998", "flow 91 plus 1");
        due("25: to 999", most.falls(0, 91), most.worth() - most.bumped(0, 1));
        due("26: to 999", most.moves(0), 2);
        most.bump(0, 1);
        due("25: 999 at most", most.falls(0, 91), 0);
        due("26: 999 at most", most.moves(0), 0);
        PillarDesk all = Kit.told(Kit.HEAD + "deposit 7 rate 1;forward 7 14 rate 1;forward 14 21 rate 1;forward 21 28 rate 1;forward 28 35 rate 1;"
                + "forward 35 42 rate 1;forward 42 49 rate 1;forward 49 56 rate 1;");
        due("26: the first moves all eight", all.moves(0), 0b111111110);
        due("26: the last moves itself", all.moves(7), 0b100000000);
    }

    // ---- 27 to 34

    private static void moveBumpedMover() {
        due("27: no flow", Kit.lines("deposit 5 rate 5").worth(), 0);
        due("27: the most", Kit.told(Kit.HEAD + "flow 0 plus 999;".repeat(10)).worth(), 9990 * UNIT);
        due("27: the least", Kit.told(Kit.HEAD + "flow 999 minus 999;".repeat(10)).worth(), -9990 * UNIT);
        for (int i : new int[] {-1, 4, 8, LEAST, MOST}) {
            Twin.refused("28: move(" + i + ")", FAR - 2, x -> x.move(i));
            Twin.refused("29: bumped(" + i + ", 0)", FAR - 2, x -> x.bumped(i, 0));
            Twin.refused("29: -2 ahead of -3", FAR - 2, x -> x.bumped(i, 1000));
        }
        for (int n : new int[] {-1000, 1000, LEAST, MOST}) {
            Twin.refused("29: bumped(0, " + n + ")", FAR - 3, x -> x.bumped(0, n));
        }
        PillarDesk x = Kit.lines("deposit 800 rate 500", "flow 800 plus 1", "opens : 1 = 1");
        long least = UNIT * 3_600_000 / (3_600_000 + 999 * 800);
        due("29: -999", x.bumped(0, -999), UNIT);
        due("29: -500", x.bumped(0, -500), UNIT);
        due("29: -499", x.bumped(0, -499), UNIT * 3_600_000 / (3_600_000 + 800));
        due("29: 499", x.bumped(0, 499), least);
        due("29: 498", x.bumped(0, 498), UNIT * 3_600_000 / (3_600_000 + 998 * 800));
        due("29: 999", x.bumped(0, 999), least);
        due("30: NONE", Kit.lines("flow 5 plus 5").mover(), -1);
        due("30: one, though it moves nothing", Kit.lines("deposit 5 rate 5").mover(), 0);
        due("30: the first of like ones", Kit.lines("deposit 91 rate 5", "deposit 182 rate 999", "deposit 91 rate 5").mover(), 0);
        due("30: the sign aside", Kit.lines("deposit 91 rate 5", "deposit 182 rate 5", "flow 91 minus 3", "flow 182 plus 2").mover(), 1);
        due("30: the last of eight", Kit.told(Kit.HEAD + "deposit 5 rate 5;".repeat(7) + "deposit 91 rate 5;flow 91 minus 1;").mover(), 7);
    }

    /** "The least n from 0 on (to 999) .. 0 or of the other sign than now. NONE: there is none, the WORTH is 0; -2." */
    private static void breaks() {
        for (int i : new int[] {-1, 4, 8, LEAST, MOST}) {
            Twin.refused("31: breaks(" + i + ")", -2, x -> x.breaks(i));
        }
        due("31: -2 ahead of NONE", new PillarDesk().breaks(0), -2);
        due("31: the WORTH is 0", Kit.lines("deposit 900 rate 5").breaks(0), -1);
        due("31: the WORTH is 0, by two flows", Kit.lines("deposit 900 rate 5", "flow 3 plus 2", "flow 3 minus 2").breaks(0), -1);
        String[] book = {"deposit 900 rate 0", "flow 900 plus 781", "flow 0 minus 625", "opens : 1 = 1"};
        due("31: 999", Kit.lines(book).breaks(0), 999);
        PillarDesk one = Kit.lines(book);
        for (int k = 0; k < 10; k++) {
            one.bump(0, 99);
        }
        one.bump(0, 8);
        due("31: 1", one.breaks(0), 1);
        one.bump(0, 1);
        due("31: at 999 the sign is already the other", one.worth() < 0 ? 1 : 0, 1);
        due("31: none above 999", one.breaks(0), -1);
        due("31: none", Kit.lines("deposit 900 rate 0", "flow 900 plus 782", "flow 0 minus 625", "opens : 1 = 1").breaks(0), -1);
        due("31: an unmet one", Kit.lines("deposit 900 rate 0", "deposit 900 rate 0", "flow 900 plus 6", "flow 0 minus 5", "opens : 1 = 1").breaks(1), -1);
        due("31: 0 itself", Kit.lines("deposit 900 rate 0", "flow 900 plus 10", "flow 0 minus 9", "rates : told", "opens : 1 = 1").breaks(0), 445);
    }

    /** Day 2 is worth as much more than day 1 as the rate tells, day 278 557 more than day 279: 557 less rate times amount. */
    private static PillarDesk fine(int rate, int amount) {
        return Kit.lines("deposit 1 rate " + rate, "deposit 278 rate 0", "deposit 555 rate 1", "opens : 1 = 1", "flow 278 plus 1", "flow 279 minus 1",
                "flow 1 plus " + amount, "flow 2 minus " + amount);
    }

    /** "is 0 or of the other sign than now", to the last unit */
    private static void breaksByOne() {
        PillarDesk one = fine(1, 4);
        due("31: now", one.worth(), 553);
        due("31: 1 is of the same sign", one.bumped(0, 138), 1);
        due("31: -3 isn't", one.bumped(0, 139), -3);
        due("31: so the first that isn't", one.breaks(0), 139);
        PillarDesk zero = fine(0, 557);
        due("31: 0", zero.bumped(0, 1), 0);
        due("31: the first that is 0", zero.breaks(0), 1);
        PillarDesk less = fine(1, 6);
        due("31: 5", less.bumped(0, 91), 5);
        due("31: -1", less.bumped(0, 92), -1);
        due("31: the first that is -1", less.breaks(0), 92);
        PillarDesk least = fine(139, 4);
        due("31: a WORTH of 1 now", least.worth(), 1);
        due("31: of the other sign by the next", least.breaks(0), 1);
        PillarDesk below = fine(93, 6);
        due("31: a WORTH of -1 now", below.worth(), -1);
        due("31: -7 by the next", below.bumped(0, 1), -7);
        due("31: never 0 nor above", below.breaks(0), -1);
        for (int k = 0; k < 4; k++) {
            below.amount(k, (int) -below.flow(k, 1));
            least.amount(k, (int) -least.flow(k, 1));
        }
        due("31: a WORTH of 1, never below", below.worth(), 1);
        due("31: a WORTH of 1, never below", below.breaks(0), -1);
        due("31: a WORTH of -1, above by the next", least.worth(), -1);
        due("31: a WORTH of -1, above by the next", least.breaks(0), 1);
    }

    private static void hangFlatLeft() {
        PillarDesk x = Twin.full();
        for (int k = 1; k < 4; k++) {
            due("33: flat is told", x.flat(k) > FAR / 2 ? 1 : 0, 1);
            due("34: left is told", x.left(k) > FAR / 2 ? 1 : 0, 1);
        }
        for (int k : new int[] {-1, 4, 9, LEAST, MOST}) {
            Twin.refused("32: hang(" + k + ")", FAR - 2, y -> y.hang(k));
            Twin.refused("33: flat(" + k + ")", FAR - 2, y -> y.flat(k));
            Twin.refused("34: left(" + k + ")", FAR - 2, y -> y.left(k));
        }
        due("32: day 0", Kit.lines("flow 0 plus 3").hang(0), 3000);
        Twin.refused("33: day 0", FAR - 2, y -> y.flat(0));
        Twin.refused("34: day 0", FAR - 2, y -> y.left(0));
    }

    // ---- 35 to 38

    private static PillarDesk toldBy(int many, long number) {
        PillarDesk x = Twin.full();
        x.numbers(1, 3, many);
        for (int k = 0; k < many; k++) {
            x.write(1, k, number);
        }
        return x;
    }

    /** "-2: the TRAY; -6; -4: not 1 to 8 numbers; -3: one is below 0 or above 999,999,999,999" */
    private static void shifts() {
        long day0 = 10_000_000L;
        due("35: one number", toldBy(1, day0).shifts(1), 1023);
        due("35: eight numbers", toldBy(8, day0).shifts(1), 1023);
        due("35: 0", toldBy(1, 0).shifts(1), 0);
        due("35: 999,999,999,999", toldBy(8, 999_999_999_999L).shifts(1), 0);
        for (int t : new int[] {-1, 4, LEAST, MOST}) {
            Twin.refused("35: shifts(" + t + ")", -2, x -> x.shifts(t));
            Twin.refused("36: ask(" + t + ")", -2, x -> x.ask(t));
        }
        Twin.refused("35: a missing tray", -6, x -> x.shifts(2));
        Twin.refused("36: a missing tray", -6, x -> x.ask(2));
        for (int many : new int[] {0, 9, 40}) {
            Twin.refused("35: " + many + " numbers", -4, () -> toldBy(many, day0), x -> x.shifts(1));
            Twin.refused("36: " + many + " numbers", -4, () -> toldBy(many, day0), x -> x.ask(1));
            Twin.refused("35: -4 ahead of -3", -4, () -> toldBy(many, -1), x -> x.shifts(1));
        }
        for (long v : new long[] {-1, 1_000_000_000_000L, Long.MIN_VALUE, Long.MAX_VALUE}) {
            Twin.refused("35: one is " + v, -3, () -> lastTold(v), x -> x.shifts(1));
            Twin.refused("36: one is " + v, -3, () -> lastTold(v), x -> x.ask(1));
        }
    }

    /** Eight numbers, of which the first already tells that no shift is so, and the last is another. */
    private static PillarDesk lastTold(long v) {
        PillarDesk x = toldBy(8, 5);
        x.write(1, 7, v);
        return x;
    }

    /** "the greatest number of these SHIFTS .. is least, the first (DAY 0 too). NONE: there are none" */
    private static void ask() {
        due("36: none", toldBy(1, 0).ask(1), -1);
        due("36: day 0 alone", toldOf(new PillarDesk(), 10_000_000L).ask(1), 0);
        due("36: no pillar tells more: day 0", toldOf(Kit.lines("deposit 7 rate 5", "rates : told"), 10_000_000L).ask(1), 0);
        due("36: the first of like ones", toldOf(Kit.lines("deposit 91 rate 5", "deposit 182 rate 5"), 10_000_000L).ask(1), 91);
        // Day 30 parts six shifts from four. Day 60 parts two from eight, and the eight, by less than 100, four from four.
        PillarDesk by100 = toldOf(Kit.lines("deposit 30 rate 100", "swap 60 every 30 rate 120", "opens : 1 = 1",
                "rates : told + if input = 0 then if shift < 6 then 0 else 1 end else if shift < 2 then 1 else 0 end end"), 10_000_000L);
        by100.shift(5);
        int early = by100.factor(60);
        by100.shift(6);
        due("36: factors that differ", by100.factor(60) == early ? 1 : 0, 0);
        due("36: but not by 100", by100.factor(60) / 100, early / 100);
        due("36: by 100", by100.ask(1), 30);
        due("36: 999535085 and 999535087 are the same by 100, not by 99 or 101", partedBy(851, 28, 999_535_085, 999_535_087), 30);
        due("36: 999966699 and 999966700 aren't", partedBy(229, 2, 999_966_699, 999_966_700), 60);
        PillarDesk nine = toldOf(Kit.lines("deposit 91 rate 5", "rates : told + if shift = 4 then 1 else 0 end"), 10_000_000L);
        due("36: nine of ten are less than ten", nine.ask(1), 91);
    }

    /** As above; the shifts from 2 on are parted at day 60 by these factors alone. */
    private static int partedBy(int rate, int swapRate, int early, int late) {
        PillarDesk x = toldOf(Kit.lines("deposit 30 rate " + rate, "swap 60 every 30 rate " + swapRate, "opens : 1 = 1",
                "rates : told + if input = 0 then if shift < 6 then 0 else 1 end else if shift < 2 then 1 else 0 end end"), 10_000_000L);
        x.shift(5);
        due("36: a factor", x.factor(60), early);
        x.shift(6);
        due("36: the other", x.factor(60), late);
        return x.ask(1);
    }

    private static PillarDesk toldOf(PillarDesk x, long number) {
        Kit.tray(x, 1, number);
        return x;
    }

    /** "by b (-99 to 99) .. k (-1,000,000 to 1,000,000) .. n lots (0 to 3) .. -2: what; -3: b, k, n" */
    private static void chance() {
        PillarDesk x = Kit.lines("flow 0 plus 5");
        due("37: below 6", x.chance(99, 6, 3, 0), 1);
        due("37: not below 5", x.chance(-99, 5, 3, 0), 0);
        due("37: the greatest k", x.chance(99, 1_000_000, 0, 0), 1);
        due("37: the least k", x.chance(-99, -1_000_000, 0, 0), 0);
        due("37: 0 of 1", x.chance(-99, -1_000_000, 3, 1), 1);
        due("37: 1 of 1", x.chance(-99, 1_000_000, 3, 1), 1);
        for (int what : new int[] {-1, 2, LEAST, MOST}) {
            Twin.refused("37: what " + what, -2, y -> y.chance(0, 0, 0, what));
            Twin.refused("37: -2 ahead of -3", -2, y -> y.chance(100, 1_000_001, 4, what));
            Twin.refused("38: what " + what, FAR - 2, y -> y.mean(0, 0, what));
            Twin.refused("38: -2 ahead of -3", FAR - 2, y -> y.mean(100, 4, what));
        }
        for (int b : new int[] {-100, 100, LEAST, MOST}) {
            Twin.refused("37: b " + b, -3, y -> y.chance(b, 0, 0, 0));
        }
        for (long k : new long[] {-1_000_001, 1_000_001, Long.MIN_VALUE, Long.MAX_VALUE, 1L << 32}) {
            Twin.refused("37: k " + k, -3, y -> y.chance(0, k, 0, 0));
        }
        for (int n : new int[] {-1, 4, LEAST, MOST}) {
            Twin.refused("37: n " + n, -3, y -> y.chance(0, 0, n, 0));
        }
    }

    private static void mean() {
        PillarDesk x = Kit.lines("flow 0 plus 5");
        due("38: b -99, n 0", x.mean(-99, 0, 0), 5 * UNIT);
        due("38: b 99, n 3", x.mean(99, 3, 0), 5 * UNIT);
        for (int b : new int[] {-100, 100, LEAST, MOST}) {
            Twin.refused("38: b " + b, FAR - 3, y -> y.mean(b, 0, 0));
        }
        for (int n : new int[] {-1, 4, LEAST, MOST}) {
            Twin.refused("38: n " + n, FAR - 3, y -> y.mean(0, n, 0));
        }
        due("38: the most", Kit.told(Kit.HEAD + "flow 0 plus 999;".repeat(10)).mean(99, 3, 0), 9990 * UNIT);
        due("38: the least", Kit.told(Kit.HEAD + "flow 0 minus 999;".repeat(10)).mean(99, 3, 0), -9990 * UNIT);
    }

    private static void lowestTerms() {
        PillarDesk one = Kit.lines("deposit 720 rate 0", "flow 720 plus 11", "opens : 1 = 1");
        due("37: 0 above is 0 of 1", one.chance(99, 0, 2, 0), 0);
        due("37: 0 above is 0 of 1", one.chance(99, 0, 2, 1), 1);
        due("37: 19 of 100", one.chance(99, 11, 2, 0), 19);
        due("37: 19 of 100", one.chance(99, 11, 2, 1), 100);
        PillarDesk two = Kit.lines("deposit 720 rate 0", "deposit 800 rate 0", "flow 720 plus 5", "flow 800 plus 6", "opens : 1 = 1");
        due("37: 36 of 100", two.chance(99, 11, 2, 0), 9);
        due("37: 36 of 100", two.chance(99, 11, 2, 1), 25);
        due("38: 0 of 1", Kit.lines("deposit 720 rate 0").mean(99, 3, 0), 0);
        due("38: 0 of 1", Kit.lines("deposit 720 rate 0").mean(99, 3, 1), 1);
        due("38: below 0 above, never below", Kit.lines("flow 0 minus 5").mean(0, 3, 1), 1);
    }

    // ---- 39 to 44

    /** "-2: no such TRAY, sort; -3, and the TRAY stays: n is below 0 or above 40" */
    private static void numbers() {
        PillarDesk x = new PillarDesk();
        due("39: the last tray, the last sort, the most", x.numbers(3, 3, 40), 0);
        due("39: the fortieth", x.write(3, 39, 7), 7);
        due("39: the first tray, the first sort, none", x.numbers(0, 0, 0), 0);
        due("39: none isn't missing", x.write(0, 0, 7), -7);
        for (int t : new int[] {-1, 4, LEAST, MOST}) {
            Twin.refused("39: tray " + t, -2, y -> y.numbers(t, 0, 1));
            Twin.refused("39: -2 ahead of -3", -2, y -> y.numbers(t, 0, 41));
        }
        for (int sort : new int[] {-1, 4, LEAST, MOST}) {
            Twin.refused("39: sort " + sort, -2, y -> y.numbers(0, sort, 1));
            Twin.refused("39: -2 ahead of -3", -2, y -> y.numbers(0, sort, -1));
        }
        for (int n : new int[] {-1, 41, LEAST, MOST}) {
            for (int t = 0; t < 4; t++) {
                int tray = t;
                Twin.refused("39: " + n + " in tray " + t, -3, y -> y.numbers(tray, 3, n));
            }
        }
        PillarDesk again = Twin.full();
        due("39: in place of another one", again.numbers(3, 0, 40), 0);
        due("39: all 0", again.judge(3, 0), 0);
        for (int k = 0; k < 40; k++) {
            again.write(3, k, 15);
        }
        due("39: all written", again.judge(3, 0), -1);
        again.numbers(3, 0, 39);
        again.numbers(3, 0, 40);
        again.write(3, 0, 15);
        due("39: all 0, the others too", again.judge(3, 0), 1);
    }

    /** "-2: no such TRAY; -6; -7", by codes that are not 9,000,000,000,000,000,000 less */
    private static void write() {
        due("40: the last place", Twin.full().write(3, 39, 11), 11);
        for (int t : new int[] {-1, 4, LEAST, MOST}) {
            Twin.refused("40: write(" + t + ", 0, 1)", -2, x -> x.write(t, 0, 1));
            Twin.refused("40: -2 ahead of -7", -2, x -> x.write(t, -1, 1));
        }
        Twin.refused("40: a missing tray", -6, x -> x.write(2, 0, 1));
        Twin.refused("40: -6 ahead of -7", -6, x -> x.write(2, -1, 1));
        for (int i : new int[] {-1, 40, LEAST, MOST}) {
            Twin.refused("40: write(3, " + i + ", 1)", -7, x -> x.write(3, i, 1));
        }
        Twin.refused("40: one more than there are", -7, x -> x.write(0, 5, 11));
        Twin.refused("40: of no numbers", -7, () -> emptyTray(Twin.full()), x -> x.write(0, 0, 11));
    }

    /** "as far as it has places: how many. -2: the TRAY; -6." */
    private static void lists() {
        for (int t : new int[] {-1, 4, LEAST, MOST}) {
            Twin.refused("41: lists(" + t + ")", -2, x -> x.lists(t));
        }
        Twin.refused("41: a missing tray", -6, x -> x.lists(2));
        int[][] places = {{0, 0}, {1, 1}, {3, 3}, {4, 4}, {5, 4}, {40, 4}};
        for (int[] row : places) {
            PillarDesk x = Twin.full();
            x.numbers(2, 3, row[0]);
            due("41: " + row[0] + " places for four pillars", x.lists(2), row[1]);
        }
        PillarDesk y = new PillarDesk();
        y.numbers(0, 3, 40);
        due("41: day 0 alone", y.lists(0), 1);
        y.numbers(0, 3, 1);
        y.lists(0);
        y.write(0, 0, y.write(0, 0, 10_000_000L));
        due("41: a tray goes on", y.shifts(0), 1023);
    }

    private static void image() {
        due("42: the first", Twin.full().image(0), 0);
        due("42: the last", Twin.full().image(1), 0);
        for (int i : new int[] {-1, 2, LEAST, MOST}) {
            Twin.refused("42: image(" + i + ")", -2, x -> x.image(i));
            Twin.refused("43: restore(" + i + ")", -2, x -> x.restore(i));
        }
        PillarDesk x = Twin.full();
        due("42: in place of the one ahead", x.image(0), 0);
        x.shift(9);
        x.restore(0);
        due("42: the newer one", x.count(5), 2);
        due("42: the newer one", x.count(0), 4);
    }

    /** "-5: none was made" */
    private static void restore() {
        Twin.refused("43: none was made", -5, x -> x.restore(1));
        Twin.refused("43: none was made", -5, PillarDesk::new, x -> x.restore(0));
        PillarDesk x = Twin.full();
        due("43: made", x.restore(0), 0);
        due("43: the shift that was", x.count(5), 6);
        due("43: nothing can be undone", x.count(7), 0);
        due("43: the trays aren't in it", x.judge(3, 0), -1);
        due("43: the tape isn't in it", x.count(8) > 0 ? 1 : 0, 1);
    }

    private static void count() {
        PillarDesk x = Twin.full();
        int[] want = {4, 2, 1, 0, 0, 2, 1212, 3, 60, 10};
        for (int what = 0; what <= 9; what++) {
            due("44: count(" + what + ")", x.count(what), want[what]);
        }
        for (int what : new int[] {-1, 10, LEAST, MOST}) {
            Twin.unchanged("44: count(" + what + ")", -1, Twin::full, y -> y.count(what));
        }
    }

    /** Calls that tell what would be change nothing. */
    private static void asIfDone() {
        Twin.unchanged("16: judge", 3, Twin::full, x -> x.judge(0, 0));
        Twin.unchanged("16: judge", 1222, Twin::full, x -> x.judge(0, 2));
        Twin.unchanged("25: falls", 0, Twin::full, x -> x.falls(0, 0));
        Twin.unchanged("29: bumped", 0, Twin::full, x -> x.bumped(0, 999) - x.bumped(0, 998));
        Twin.unchanged("31: breaks", -1, Twin::full, x -> x.breaks(0));
        Twin.unchanged("35: shifts", 1023, Twin::full, x -> x.shifts(1));
        Twin.unchanged("36: ask", 91, Twin::full, x -> x.ask(1));
        Twin.unchanged("37: chance", 1, Twin::full, x -> x.chance(99, 1_000_000, 3, 0));
        Twin.unchanged("38: mean", 1, Twin::full, x -> x.mean(99, 0, 1));
        Twin.unchanged("42: image", 0, Twin::full, x -> x.count(7) - 3);
    }

    /** "An object is used for at most 512 calls after it has been made": the 512th still answers as is due. */
    private static void theLastCall() {
        PillarDesk x = new PillarDesk();
        String text = Kit.HEAD + "deposit 91 rate 400;flow 91 plus 3;";
        Kit.feed(x, text);
        x.desk(text.length());
        int calls = (text.length() + 19) / 20 + 1;
        for (; calls + 2 <= 510; calls += 2) {
            x.bump(0, 1);
            x.bump(0, -1);
        }
        for (; calls < 510; calls++) {
            x.shift(0);
        }
        due("the 511th call", x.worth(), 3 * (UNIT * 3_600_000 / (3_600_000 + 400 * 91)));
        due("the 512th call", x.undo(10), 0);
    }
}
