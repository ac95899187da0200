/** At least one test for each promise of the document: ordinary inputs, the edges that it names, wrong inputs. */
public final class PromiseTest {
    private static final long UNIT = 1_000_000_000L;
    private static final long BASE = 3_600_000L;
    /** Day 91 is open, behind 13 weeks; so are 182 and 364. */
    private static final String DEPOSIT = "deposit 91 rate 400";
    private static final long F91 = 989_990_100L;

    public static void main(String[] args) {
        newObjectFeedDeskFault();
        textFaults();
        tokens();
        laws();
        inputsAndFlows();
        days();
        businessAndPeriods();
        bumpShiftAmount();
        undo();
        judgePerform();
        week();
        pillars();
        solvedFactors();
        unmet();
        factorForwardImplied();
        soundFallsMoves();
        worthMoveBumpedMover();
        breaks();
        hangFlatLeft();
        shiftsAsk();
        chanceMean();
        trays();
        images();
        counts();
        Kit.end();
    }

    private static void due(String call, long got, long want) {
        Kit.due(call, got, want);
    }

    private static void fault(String text, int kind, int place) {
        PillarDesk x = new PillarDesk();
        due(text, Kit.tell(x, text), -30 - kind);
        due(text + " fault(0)", x.fault(0), kind);
        due(text + " fault(1)", x.fault(1), place);
    }

    private static void faultIn(String lines, int kind, int place) {
        fault(Kit.HEAD + lines, kind, Kit.HEAD.length() + place);
    }

    // ---- 1 to 4

    private static void newObjectFeedDeskFault() {
        PillarDesk x = new PillarDesk();
        for (int what = 0; what <= 9; what++) {
            due("1: count(" + what + ")", x.count(what), 0);
        }
        due("1: pillars", x.pillars(), 1);
        due("1: worth", x.worth(), 0);
        due("4: fault(0) at first", x.fault(0), 0);
        due("4: fault(1) at first", x.fault(1), -1);
        due("4: fault(2)", x.fault(2), -1);
        due("4: fault(-1)", x.fault(-1), -1);
        for (int k = 1; k <= 45; k++) {
            due("2: feed", x.feed(0x20202020, 0x20202020, 0x20202020, 0x20202020, 0x20202020), 20 * k);
        }
        due("2: feed beyond 900", x.feed(0, 0, 0, 0, 0), -5);
        due("2: bytes stay", x.count(8), 900);
        due("3: desk(-1)", x.desk(-1), -3);
        due("3: desk(901)", x.desk(901), -3);
        due("3: the tape stays", x.count(8), 900);
        due("4: not read", x.fault(0), 0);
        due("3: blanks alone", x.desk(900), -32);
        due("4: the end", x.fault(1), 900);
        due("3: the tape is empty", x.count(8), 0);
        due("3: desk(1) of none", x.desk(1), -3);
        due("4: the latest that was read", x.fault(0), 2);
        due("3: desk(0)", x.desk(0), -32);
        due("4: desk(0)", x.fault(1), 0);
        Kit.feed(x, Kit.HEAD + "holiday 4;");
        due("3: part of the tape", x.desk(Kit.HEAD.length()), 1);
        due("3: all of the tape is gone", x.count(8), 0);
        due("4: no fault", x.fault(0), 0);
        due("4: no place", x.fault(1), -1);
        due("3: no holiday", x.count(2), 0);
        x.shift(3);
        due("3: a fault", Kit.tell(x, "desk first 1 curve 1 shift 1;flow;"), -32);
        due("3: with a fault all stays", x.count(5) * 10 + x.count(7) + x.count(3), 31);
        due("3: a desk", Kit.tell(x, "desk first 6 curve 1 shift 9;holiday 3;rates:1;rates:2;"), 4);
        due("3: nothing can be undone", x.count(7), 0);
        due("3: undo", x.undo(1), -3);
        due("3: first", x.count(3), 6);
        due("3: curve", x.count(4), 1);
        due("3: shift", x.count(5), 9);
        due("3: lines", x.count(9), 4);
    }

    private static void textFaults() {
        fault("desk", 2, 4);
        fault("desk first 7 curve 0 shift 0;", 3, 11);
        fault("desk first 0 curve 2 shift 0;", 3, 19);
        fault("desk first 0 curve 0 shift 10;", 3, 27);
        fault("desk first curve 0 shift 0;", 2, 11);
        fault("desk first 0 curve 0 shift 0 ", 2, 29);
        fault("holiday 3;", 2, 0);
        fault("Desk first 0 curve 0 shift 0;", 1, 0);
        faultIn("desk first 0 curve 0 shift 0;", 2, 0);
        faultIn(";", 2, 0);
        faultIn("holiday 1000;", 1, 8);
        faultIn("holiday 3", 2, 9);
        faultIn("holiday;", 2, 7);
        faultIn("holidays 3;", 2, 0);
        faultIn("holiday 3 4;", 2, 10);
        faultIn("deposit 0 rate 1;", 3, 8);
        faultIn("deposit 5 rate;", 2, 14);
        faultIn("deposit 5 rates 4;", 2, 10);
        faultIn("forward 999 999 rate 1;", 3, 8);
        faultIn("forward 998 998 rate 1;", 3, 12);
        faultIn("forward 7 6 rate 1;", 3, 10);
        faultIn("swap 0 every 30 rate 1;", 3, 5);
        faultIn("swap 5 every 29 rate 1;", 3, 13);
        faultIn("swap 5 rate 1;", 2, 7);
        faultIn("flow 5 times 3;", 2, 7);
        faultIn("flow 5 plus minus;", 2, 12);
        faultIn("holiday 1;".repeat(13), 4, 120);
        faultIn("deposit 1 rate 0;".repeat(8) + "swap 1 every 30 rate 0;", 4, 136);
        faultIn("flow 1 plus 1;".repeat(11), 4, 140);
        faultIn("holiday 1;".repeat(12) + "holiday ?", 4, 120);
        faultIn("rates 4;", 2, 6);
        faultIn("rates : week;", 2, 8);
        faultIn("rates : date;", 2, 8);
        faultIn("rates : told = 3;", 2, 13);
        faultIn("opens : told = 1;", 2, 8);
        faultIn("opens : 1 = shift;", 2, 12);
        faultIn("opens : 1;", 2, 9);
        faultIn("opens : 1 = 2 = 3;", 2, 14);
        faultIn("opens : (1 = 2);", 2, 11);
        faultIn("opens : [1 = 2;", 2, 14);
        faultIn("rates : 1 +;", 2, 11);
        faultIn("rates : (1;", 2, 10);
        faultIn("rates : not 1;", 2, 8);
        faultIn("rates : [1];", 2, 8);
        faultIn("rates : if 1 = 1 then 2 end;", 2, 24);
        faultIn("rates : if 1 then 2 else 3 end;", 2, 13);
        faultIn("rates : if 1 = 1 then 2 else 3;", 2, 30);
        faultIn("rates : 12345;", 1, 8);
        faultIn("rates : 1 / 2;", 1, 10);
        faultIn("rates : ((((((1))))));rates : (((((((1)))))));", 4, 22 + 14);
        faultIn("opens : not not not not not not not 1 = 1;", 4, 32);
        faultIn("opens : [[[[[[1 = (2)]]]]]];", 4, 18);
        faultIn("opens : [[[[[not 1 = if 2 = 2 then 3 else 4 end]]]]];", 4, 21);
        faultIn("opens : [[[[[[[[", 4, 14);
        faultIn("rates : ((((((];", 2, 14);
    }

    private static void tokens() {
        due("3: no blanks needed", Kit.tell(new PillarDesk(), "desk first0curve1shift2;flow5plus3;"), 2);
        due("3: both blanks", Kit.tell(new PillarDesk(), "\n desk\nfirst 0 \n curve 1 shift 2 ; \n"), 1);
        due("3: zeros ahead", Kit.tell(new PillarDesk(), "desk first 006 curve 001 shift 009;"), 1);
        fault("desk\tfirst 0 curve 0 shift 0;", 1, 4);
        fault("desk\rfirst 0 curve 0 shift 0;", 1, 4);
        fault("desk first 0 curve 0 shift 0;\u00e4", 1, 29);
        fault("desk first 0 curve 0 shift 0;\u0000", 1, 29);
        fault("desk first 0000 curve 0 shift 0;", 1, 11);
        fault("deskfirst 0 curve 0 shift 0;", 2, 0);
        fault("desk first 0 curve 0 shift 0;zz 5;", 2, 29);
        due("3: holiday 0", Kit.tell(new PillarDesk(), Kit.HEAD + "holiday 0;holiday 999;flow 0 plus 0;"), 4);
        String all = Kit.HEAD + "holiday 3;deposit 4 rate 5;forward 4 9 rate 5;swap 40 every 30 rate 5;flow 1 plus 1;flow 1 minus 1;"
                + "rates:if not told=days and kind=shift or input=1 then 2 else 3 end;opens:week=holiday or date=3;";
        due("3: all of it", Kit.tell(new PillarDesk(), all), 9);
        for (int at = 0; at < all.length(); at++) {
            if (Character.isLetter(all.charAt(at))) {
                int first = at;
                while (first > 0 && Character.isLetter(all.charAt(first - 1))) {
                    first--;
                }
                fault(all.substring(0, at) + "x" + all.substring(at + 1), 2, first);
            }
        }
        due("3: twelve, eight, ten", Kit.tell(new PillarDesk(), Kit.HEAD + "holiday 1;".repeat(12) + "deposit 1 rate 0;".repeat(8)
                + "flow 1 plus 1;".repeat(10)), 31);
        due("3: six deep", Kit.tell(new PillarDesk(), Kit.HEAD + "rates:((((((1))))))+((((((1))))));opens:not[not[not[1=1]]];"), 3);
    }

    private static int counting(String law) {
        return Kit.told("desk first 0 curve 0 shift 3;deposit 91 rate 400;forward 91 182 rate 7;rates : " + law + ";").input(1, 6);
    }

    private static void laws() {
        due("rates: told", counting("told"), 7);
        due("rates: days", counting("days"), 91);
        due("rates: kind", counting("kind"), 1);
        due("rates: shift", counting("shift"), 3);
        due("rates: input", counting("input"), 1);
        due("rates: least", counting("1 - 2"), 0);
        due("rates: most", counting("999 + 1"), 999);
        due("rates: * ahead of +", counting("2 + 3 * 4"), 14);
        due("rates: from the left", counting("20 - 3 - 4"), 13);
        due("rates: ( )", counting("(2 + 3) * 4"), 20);
        due("rates: kept above", counting("(999 * 999 * 999) - (999 * 999 + 999 + 999)"), 1);
        due("rates: kept below", counting("0 - 999 * 999 * 999 + 999 * 999 + 999 + 999 + 7"), 6);
        due("rates: if", counting("if told = 7 then 5 else 6 end"), 5);
        due("rates: else", counting("if told > 7 then 5 else 6 end"), 6);
        due("rates: and ahead of or", counting("if 1 = 1 or 1 = 1 and 1 = 2 then 5 else 6 end"), 5);
        due("rates: [ ]", counting("if [1 = 1 or 1 = 1] and 1 = 2 then 5 else 6 end"), 6);
        due("rates: not, one unit", counting("if not 1 = 1 or 2 < 3 then 5 else 6 end"), 5);
        due("rates: not not", counting("if not not 1 = 1 then 5 else 6 end"), 5);
        due("rates: <", counting("if 7 < told then 5 else 6 end"), 6);
        due("rates: <", counting("if 6 < told then 5 else 6 end"), 5);
        due("rates: >", counting("if told > 6 then 5 else 6 end"), 5);
        due("rates: not", counting("if not told = 7 then 5 else 6 end"), 6);
        due("rates: and", counting("if told = 7 and kind = 1 then 5 else 6 end"), 5);
        due("rates: and, first", counting("if told = 8 and kind = 1 then 5 else 6 end"), 6);
        due("rates: and, second", counting("if told = 7 and kind = 2 then 5 else 6 end"), 6);
        due("rates: or", counting("if told = 8 or kind = 2 then 5 else 6 end"), 6);
        due("rates: or, second", counting("if told = 8 or kind = 1 then 5 else 6 end"), 5);
        due("rates: later ones strike", counting("5;rates : 8"), 8);
        PillarDesk x = Kit.lines("holiday 3", "opens : 1 = 2", "opens : holiday = 1 or date = 12 or week = 6");
        due("opens: holiday", x.open(3), 1);
        due("opens: date", x.open(12), 1);
        due("opens: week", x.open(13), 1);
        due("opens: others", x.open(0), 0);
        due("opens: far", x.open(9735), 0);
        due("opens: far week", x.open(6 + 7 * 1000), 1);
        String open = "0=1 or 1=1 and 1<1+1*";
        due("opens: six deep, and much waits at each", Kit.lines("opens : " + (open + "if ").repeat(6) + open + "1"
                + " then 1 else 0 end".repeat(6)).open(5), 1);
        due("opens: six deep, and it doesn't hold", Kit.lines("opens : " + (open + "if ").repeat(6) + open + "0"
                + " then 1 else 0 end".repeat(6)).open(0), 0);
        due("shift counts without a law", Kit.told("desk first 0 curve 0 shift 9;deposit 5 rate 995;").input(0, 6), 999);
    }

    // ---- 5, 6

    private static void inputsAndFlows() {
        PillarDesk x = Kit.lines("deposit 90 rate 400", "forward 5 90 rate 7", "swap 360 every 180 rate 3", "flow 0 plus 9", "flow 999 minus 999", "flow 7 minus 0");
        int[][] want = {{0, 0, 90, 0, 91, 400, 400, 0, 0}, {1, 5, 90, 7, 91, 7, 7, 0, 1}, {2, 0, 360, 0, 360, 3, 3, 180, 0}};
        for (int i = 0; i < 3; i++) {
            for (int what = 0; what < 9; what++) {
                due("5: input(" + i + ", " + what + ")", x.input(i, what), want[i][what]);
            }
        }
        x.bump(0, 5);
        x.shift(2);
        due("5: its rate now", x.input(0, 5), 405);
        due("5: that counts", x.input(0, 6), 407);
        due("5: no such input", x.input(3, 0), -2);
        due("5: no such input", x.input(-1, 0), -2);
        due("5: no such what", x.input(0, 9), -2);
        due("5: no such what", x.input(0, -1), -2);
        PillarDesk shut = Kit.lines("deposit 9 rate 1", "forward 0 9 rate 1", "opens : date > 3");
        due("5: a deposit starts at day 0 itself", shut.input(0, 3), 0);
        due("5: a forward's start is put off", shut.input(1, 3), 4);
        due("6: day", x.flow(1, 0), 999);
        due("6: amount", x.flow(1, 1), -999);
        due("6: first", x.flow(0, 1), 9);
        due("6: nothing", x.flow(2, 1), 0);
        x.amount(0, -5);
        due("6: amount now", x.flow(0, 1), -5);
        due("6: no such flow", x.flow(3, 0), Kit.FAR - 2);
        due("6: no such flow", x.flow(-1, 0), Kit.FAR - 2);
        due("6: no such what", x.flow(0, 2), Kit.FAR - 2);
        due("6: no such what", x.flow(0, -1), Kit.FAR - 2);
    }

    // ---- 7 to 11

    private static void days() {
        PillarDesk x = Kit.told("desk first 5 curve 0 shift 0;holiday 3;");
        int[] want = {0, 0, 1, 0, 1, 1, 1, 0, 0, 1};
        for (int d = 0; d < want.length; d++) {
            due("7: open(" + d + ")", x.open(d), want[d]);
        }
        due("7: open(9999)", x.open(9999), (9999 + 5) % 7 < 5 ? 1 : 0);
        due("7: open(10000)", x.open(10000), -3);
        due("7: open(-1)", x.open(-1), -3);
        due("8: off(0)", x.off(0), 2);
        due("8: off(3)", x.off(3), 4);
        due("8: off(4)", x.off(4), 4);
        due("8: off(9999)", x.off(9999), 9999);
        due("8: off(10000)", x.off(10000), -3);
        due("8: off(-1)", x.off(-1), -3);
        PillarDesk one = Kit.lines("opens : date = 35");
        due("8: thirty days", one.off(5), 35);
        due("8: not thirty-one", one.off(4), 4);
        due("8: behind it", one.off(36), 36);
        PillarDesk far = Kit.lines("opens : date = 999 * 10 + 39");
        due("8: beyond the days that can be asked for", far.off(9999), 10029);
        due("8: and not", far.off(9998), 9998);
        PillarDesk plain = new PillarDesk();
        due("9: all", plain.opens(0, 999), 715);
        due("9: b aside", plain.opens(0, 4), 4);
        due("9: a week", plain.opens(0, 7), 5);
        due("9: a too", plain.opens(4, 6), 1);
        due("9: none", plain.opens(999, 999), 0);
        due("9: b below a", plain.opens(3, 2), -3);
        due("9: a", plain.opens(-1, 2), -3);
        due("9: a", plain.opens(1000, 1000), -3);
        due("9: b", plain.opens(3, 1000), -3);
    }

    private static void businessAndPeriods() {
        PillarDesk plain = new PillarDesk();
        due("10: behind the day", plain.business(0, 1), 1);
        due("10: over the end of the week", plain.business(0, 5), 7);
        due("10: the last that can be asked for", plain.business(999, 99), 1137);
        due("10: n", plain.business(0, 0), -3);
        due("10: n", plain.business(0, 100), -3);
        due("10: d", plain.business(-1, 1), -3);
        due("10: d", plain.business(1000, 1), -3);
        due("10: within 999", Kit.lines("opens : date = 999 * 2").business(999, 1), 1998);
        due("10: not within 999", Kit.lines("opens : date = 999 * 2 + 1").business(999, 1), -1);
        due("10: too few", Kit.lines("opens : date = 7 or date = 9").business(0, 3), -1);
        PillarDesk x = Kit.lines("swap 360 every 180 rate 1", "swap 999 every 30 rate 1", "swap 60 every 30 rate 1", "swap 30 every 999 rate 1", "deposit 4 rate 1");
        due("11: the first", x.period(0, 0), 182);
        due("11: the last", x.period(0, 1), 360);
        due("11: no more", x.period(0, 2), -1);
        due("11: a stub", x.period(1, 0), 9);
        due("11: 34 of them", x.period(1, 33), 1001);
        due("11: not 35", x.period(1, 34), -1);
        due("11: above 0", x.period(2, 0), 30);
        due("11: no third", x.period(2, 2), -1);
        PillarDesk stub = Kit.lines("swap 61 every 30 rate 1", "opens : 1 = 1");
        due("11: a stub of one day", stub.period(0, 0), 1);
        due("11: and on", stub.period(0, 2), 61);
        due("11: one alone", x.period(3, 0), 30);
        due("11: none else", x.period(3, 1), -1);
        due("11: k", x.period(0, -1), -3);
        due("11: no swap", x.period(4, 0), -2);
        due("11: no swap ahead of k", x.period(4, -1), -2);
        due("11: no input", x.period(5, 0), -2);
        due("11: no input", x.period(-1, 0), -2);
    }

    // ---- 12 to 15

    private static void bumpShiftAmount() {
        PillarDesk x = Kit.lines("deposit 91 rate 950", "deposit 5 rate 3", "flow 3 plus 3");
        due("12: more", x.bump(1, 99), 102);
        due("12: less", x.bump(1, -99), 3);
        due("12: to 0", x.bump(1, -3), 0);
        due("12: to 999", x.bump(0, 49), 999);
        due("12: by none", x.bump(0, 0), 999);
        due("12: can be undone", x.count(7), 5);
        due("12: below 0", x.bump(1, -1), -12);
        due("12: above 999", x.bump(0, 1), -12);
        due("12: too much", x.bump(1, 100), -11);
        due("12: too little", x.bump(0, -100), -11);
        due("12: no such", x.bump(2, 1), -11);
        due("12: no such", x.bump(-1, 1), -11);
        due("12: refused ones change nothing", x.count(7), 5);
        due("12: all rates", x.count(6), 999);
        due("13: what it was", x.shift(9), 0);
        due("13: what it was", x.shift(0), 9);
        due("13: no such", x.shift(10), -11);
        due("13: no such", x.shift(-1), -11);
        due("13: stays", x.count(5), 0);
        due("13: can be undone", x.count(7), 7);
        due("14: most", x.amount(0, 999), 0);
        due("14: least", x.amount(0, -999), 0);
        due("14: now", x.flow(0, 1), -999);
        due("14: too much", x.amount(0, 1000), -11);
        due("14: too little", x.amount(0, -1000), -11);
        due("14: no such", x.amount(1, 1), -11);
        due("14: no such", x.amount(-1, 1), -11);
        due("14: can be undone", x.count(7), 9);
    }

    private static void undo() {
        PillarDesk x = Kit.lines("deposit 91 rate 100", "flow 3 plus 3");
        due("15: none", x.undo(1), -3);
        x.bump(0, 7);
        x.shift(4);
        x.amount(0, 77);
        due("15: n", x.undo(0), -3);
        due("15: n", x.undo(-1), -3);
        due("15: more than can be", x.undo(4), -3);
        due("15: the latest first", x.undo(1), 2);
        due("15: amount", x.flow(0, 1), 3);
        due("15: shift stays", x.count(5), 4);
        due("15: two", x.undo(2), 0);
        due("15: shift", x.count(5), 0);
        due("15: rate", x.input(0, 5), 100);
        due("15: curve", x.pillar(1, 1), UNIT * BASE / (BASE + 9100));
        for (int k = 1; k <= 12; k++) {
            x.bump(0, 1);
        }
        due("15: ten at most", x.count(7), 10);
        due("15: eleven", x.undo(11), -3);
        due("15: ten", x.undo(10), 0);
        due("15: eldest are forgotten", x.input(0, 5), 102);
        for (int k = 1; k <= 10; k++) {
            x.bump(0, 1);
        }
        due("15: three", x.undo(3), 7);
        x.bump(0, 50);
        due("15: one more", x.count(7), 8);
        due("15: eight", x.undo(8), 0);
        due("15: eldest are forgotten", x.input(0, 5), 102);
    }

    // ---- 16 to 18

    private static void judgePerform() {
        PillarDesk x = Kit.lines(DEPOSIT, "flow 3 plus 3");
        due("16: missing", x.judge(0, 0), -6);
        due("17: missing", x.perform(0), -6);
        Kit.tray(x, 0, 13, 1109, 11999 - 1, 1300 - 1, 10);
        due("16: place", x.judge(0, 0), 3);
        due("16: why", x.judge(0, 1), 1);
        due("16: rates", x.judge(0, 2), 410);
        due("16: factor", x.judge(0, 3), UNIT * BASE / (BASE + 413 * 91) / 1000);
        due("16: nothing is done", x.count(6) + x.count(5) + x.count(7), 400);
        due("16: tray", x.judge(4, 0), -2);
        due("16: tray", x.judge(-1, 0), -2);
        due("16: what", x.judge(0, 4), -2);
        due("16: what", x.judge(0, -1), -2);
        due("16: what ahead of missing", x.judge(1, 4), -2);
        due("17: till one can't be", x.perform(0), 3);
        due("17: shift", x.count(5), 3);
        due("17: rate", x.count(6), 410);
        due("17: amount", x.flow(0, 1), 999);
        due("17: one call", x.count(7), 1);
        due("17: undone as a whole", x.undo(1), 0);
        due("17: undone", x.count(5) + x.count(6) + x.flow(0, 1), 403);
        due("17: tray", x.perform(4), -2);
        due("17: tray", x.perform(-1), -2);
        Kit.tray(x, 1);
        due("16: of none", x.judge(1, 0), -1);
        due("16: of none", x.judge(1, 1), 0);
        due("16: of none", x.judge(1, 2), 400);
        due("16: of none", x.judge(1, 3), F91 / 1000);
        due("17: of none", x.perform(1), 0);
        due("17: none did some", x.count(7), 0);
        deeds();
    }

    private static void deeds() {
        long[] fine = {10, 19, 1000, 1099, 1198, 10000, 10999, 11998};
        long[] first = {9, 20, 999, 1199, 1999, 2000, 8000, 9000, 11999, 12000, 28000, 30000, 0, -10, Long.MIN_VALUE, Long.MAX_VALUE,
            4294967306L};
        PillarDesk x = Kit.lines("deposit 91 rate 99", "flow 3 plus 3");
        for (long v : fine) {
            Kit.tray(x, 0, v);
            due("16: deed " + v, x.judge(0, 0), -1);
        }
        for (long v : first) {
            Kit.tray(x, 0, v);
            due("16: deed " + v, x.judge(0, 0), 0);
            due("16: deed " + v, x.judge(0, 1), 1);
            due("17: deed " + v, x.perform(0), 0);
        }
        Kit.tray(x, 0, 1000, 1000);
        due("16: below 0", x.judge(0, 0), 1);
        due("16: below 0", x.judge(0, 1), 2);
        Kit.tray(x, 0, 1198, 1198, 1198, 1198, 1198, 1198, 1198, 1198, 1198, 1198);
        due("16: above 999", x.judge(0, 0), 9);
        due("16: above 999", x.judge(0, 1), 2);
        due("16: rates then", x.judge(0, 2), 99 + 9 * 99);
        Kit.tray(x, 0, 10000);
        x.perform(0);
        due("17: amount of 10000", x.flow(0, 1), -999);
        PillarDesk full = Kit.told(Kit.HEAD + "deposit 91 rate 400;".repeat(8) + "flow 3 plus 3;".repeat(10));
        Kit.tray(full, 0, 8100, 29998);
        due("17: the last of both", full.perform(0), 2);
        due("17: input 7", full.input(7, 5), 401);
        due("17: flow 9", full.flow(9, 1), 999);
    }

    private static void week() {
        PillarDesk x = new PillarDesk();
        due("18: seed 0, one", x.week(0, 1), 1);
        due("18: shift", x.count(5), 6);
        due("18: seed 0, two", x.week(0, 2), 2);
        due("18: shift", x.count(5), 5);
        due("18: what can't be is passed over", x.week(0, 4), 2);
        due("18: one call each", x.count(7), 3);
        due("18: none could be", x.week(1, 3), 0);
        due("18: none did some", x.count(7), 3);
        due("18: times", x.week(0, 0), -3);
        due("18: times", x.week(0, 41), -3);
        due("18: times", x.week(0, -1), -3);
        PillarDesk full = Kit.told(Kit.HEAD + "deposit 91 rate 400;".repeat(8) + "flow 3 plus 3;".repeat(10));
        due("18: seed 1", full.week(1, 3), 3);
        due("18: bump", full.input(6, 5), 464);
        due("18: amount", full.flow(9, 1), -585);
        due("18: bump", full.input(3, 5), 327);
        due("18: undone as a whole", full.undo(1), 0);
        due("18: undone", full.count(6), 3200);
        due("18: a seed below 0", full.week(-1, 4), 4);
        due("18: bumps", full.input(1, 5), 413);
        due("18: shift", full.count(5), 4);
        PillarDesk low = Kit.told(Kit.HEAD + "deposit 91 rate 9;".repeat(8) + "flow 3 plus 3;".repeat(10));
        due("18: a rate below 0 can't be", low.week(1, 3), 2);
        due("18: forty", low.week(5, 40) > 0 ? 1 : 0, 1);
    }

    // ---- 19, 20 and the solving

    private static void pillars() {
        PillarDesk x = Kit.lines("swap 360 every 180 rate 400", "forward 90 180 rate 400", "deposit 5 rate 0", "deposit 7 rate 5");
        due("19: day 0 too", x.pillars(), 4);
        int[] day = {0, 7, 182, 360};
        int[] by = {-1, 2, 1, 0};
        for (int k = 0; k < 4; k++) {
            due("20: day " + k, x.pillar(k, 0), day[k]);
            due("20: input " + k, x.pillar(k, 2), by[k]);
        }
        due("20: factor", x.pillar(0, 1), UNIT);
        due("20: factor", x.pillar(1, 1), UNIT);
        due("20: k", x.pillar(4, 0), -2);
        due("20: k", x.pillar(-1, 0), -2);
        due("20: what", x.pillar(0, 3), -2);
        due("20: what", x.pillar(0, -1), -2);
        PillarDesk all = Kit.told(Kit.HEAD + "deposit 7 rate 1;deposit 14 rate 1;deposit 21 rate 1;deposit 28 rate 1;"
                + "deposit 35 rate 1;deposit 42 rate 1;deposit 49 rate 1;deposit 56 rate 1;");
        due("19: nine", all.pillars(), 9);
        due("20: the ninth", all.pillar(8, 1), UNIT * BASE / (BASE + 56));
    }

    private static void solvedFactors() {
        PillarDesk x = Kit.lines(DEPOSIT, "forward 91 182 rate 300");
        due("20: deposit", x.pillar(1, 1), F91);
        due("20: forward from a pillar", x.pillar(2, 1), F91 * BASE / (BASE + 300 * 91));
        due("20: forward from between, by a line", Kit.lines(DEPOSIT, "forward 140 182 rate 300").pillar(2, 1), 982_539_176);
        due("20: forward from between, by steps", Kit.told("desk first 0 curve 1 shift 0;deposit 91 rate 400;forward 140 182 rate 300;").pillar(2, 1),
                F91 * BASE / (BASE + 300 * 42));
        due("20: swap by a line", Kit.lines(DEPOSIT, "swap 364 every 182 rate 500").pillar(2, 1), 951_255_984);
        due("20: swap by steps", Kit.told("desk first 0 curve 1 shift 0;deposit 91 rate 400;swap 364 every 182 rate 500;").pillar(2, 1),
                950_937_660);
        due("20: forward at no rate", Kit.lines(DEPOSIT, "forward 140 182 rate 0").pillar(2, 1), F91);
        due("20: swap at no rate", Kit.lines(DEPOSIT, "swap 364 every 182 rate 0").pillar(2, 1), UNIT);
        due("20: forward from day 0", Kit.lines("forward 0 91 rate 400").pillar(1, 1), F91);
        due("20: a swap of one period", Kit.lines("swap 91 every 999 rate 400").pillar(1, 1), ((UNIT + 1) * BASE - 1) / (BASE + 400 * 91));
        due("20: a swap's pay is rounded down", Kit.lines("swap 720 every 999 rate 500", "opens : 1 = 1").pillar(1, 1), 909_090_909);
        due("20: a deposit just met", Kit.lines("deposit 960 rate 90", "opens : 1 = 1").pillar(1, 1), UNIT * BASE / (BASE + 86400));
        PillarDesk most = Kit.lines("swap 999 every 30 rate 999");
        due("20: met by the swap", swapCost(most, 999) <= UNIT ? 1 : 0, 1);
    }

    /** The factor at the end and what the periods pay, rounded down. */
    private static long swapCost(PillarDesk x, long rate) {
        long sum = 0;
        int from = 0;
        for (int k = 0; x.period(0, k) >= 0; k++) {
            sum += rate * (x.period(0, k) - from) * x.factor(x.period(0, k));
            from = x.period(0, k);
        }
        return x.pillar(1, 1) + sum / BASE;
    }

    private static void unmet() {
        PillarDesk x = Kit.lines("deposit 5 rate 10", "deposit 6 rate 20", "forward 5 6 rate 1", "deposit 7 rate 30");
        due("5: met", x.input(0, 8), 0);
        due("5: alike ends", x.input(1, 8), 1);
        due("5: start not earlier", x.input(2, 8), 1);
        due("5: alike ends", x.input(3, 8), 1);
        due("19: one behind day 0", x.pillars(), 2);
        due("20: the lesser number", x.pillar(1, 2), 0);
        PillarDesk y = Kit.lines("forward 5 6 rate 1", "deposit 7 rate 30");
        due("5: an unmet one ahead is no hindrance", y.input(1, 8), 0);
        due("20: it makes the pillar", y.pillar(1, 2), 1);
    }

    // ---- 21 to 23

    private static void factorForwardImplied() {
        PillarDesk x = Kit.lines(DEPOSIT, "forward 91 182 rate 300");
        long far = F91 * BASE / (BASE + 300 * 91);
        due("21: at a pillar", x.factor(91), F91);
        due("21: at day 0", x.factor(0), UNIT);
        due("21: by a line, rounded down", x.factor(1), UNIT + Math.floorDiv(F91 - UNIT, 91L));
        due("21: later", x.factor(100), F91 + Math.floorDiv((far - F91) * 9, 91L));
        due("21: behind the last", x.factor(183), far);
        due("21: the last day", x.factor(9999), far);
        due("21: d", x.factor(10000), -3);
        due("21: d", x.factor(-1), -3);
        PillarDesk steps = Kit.told("desk first 0 curve 1 shift 0;deposit 91 rate 400;");
        due("21: by steps", steps.factor(90), UNIT);
        due("21: by steps", steps.factor(91), F91);
        due("22: forward", x.forward(0, 91), 400);
        due("22: forward", x.forward(91, 182), 300);
        due("22: between", x.forward(45, 100), (x.factor(45) - (long) x.factor(100)) * BASE / (x.factor(100) * 55L));
        due("22: behind", x.forward(182, 9999), 0);
        due("22: the last", x.forward(9998, 9999), 0);
        due("22: not above", x.forward(5, 5), -3);
        due("22: below", x.forward(6, 5), -3);
        due("22: a", x.forward(-1, 5), -3);
        due("22: b", x.forward(5, 10000), -3);
        due("22: a", x.forward(9999, 9999), -3);
        PillarDesk rising = Kit.lines("deposit 91 rate 400", "deposit 182 rate 100");
        long high = UNIT * BASE / (BASE + 18200);
        due("22: less than 0, rounded down", rising.forward(91, 182), Math.floorDiv((F91 - high) * BASE, high * 91));
        due("23: deposit", x.implied(0), 400);
        due("23: forward", x.implied(1), 300);
        PillarDesk swap = Kit.lines(DEPOSIT, "swap 364 every 182 rate 500", "deposit 364 rate 9", "forward 5 6 rate 3");
        long below = 182L * swap.factor(182) + 182L * swap.factor(364);
        due("23: swap", swap.implied(1), (UNIT - swap.factor(364)) * BASE / below);
        due("23: an unmet deposit", swap.implied(2), swap.forward(0, 364));
        due("23: start not earlier", swap.implied(3), -5);
        due("23: no such", swap.implied(4), -2);
        due("23: no such", swap.implied(-1), -2);
    }

    // ---- 24 to 26

    private static void soundFallsMoves() {
        PillarDesk x = Kit.lines(DEPOSIT, "forward 91 182 rate 300", "deposit 180 rate 5");
        due("24: sound", x.sound(), 1);
        due("24: none behind day 0", new PillarDesk().sound(), 1);
        due("24: alike", Kit.lines("deposit 7 rate 0").sound(), 1);
        due("24: not sound", Kit.lines("deposit 91 rate 400", "deposit 182 rate 100").sound(), 0);
        long bumped = UNIT * BASE / (BASE + 401 * 91);
        due("25: at the pillar", x.falls(0, 91), F91 - bumped);
        due("25: behind", x.falls(0, 200), x.factor(200) - bumped * BASE / (BASE + 300 * 91));
        due("25: not ahead", x.falls(1, 91), 0);
        due("25: unmet", x.falls(2, 182), 0);
        due("25: day 0", x.falls(0, 0), 0);
        due("25: the last day", x.falls(1, 9999), x.falls(1, 182));
        due("25: no such", x.falls(3, 5), -2);
        due("25: no such, ahead of the day", x.falls(-1, -1), -2);
        due("25: d", x.falls(0, -1), -3);
        due("25: d", x.falls(0, 10000), -3);
        due("26: both", x.moves(0), 6);
        due("26: its own", x.moves(1), 4);
        due("26: unmet", x.moves(2), 0);
        due("26: no such", x.moves(3), -2);
        due("26: no such", x.moves(-1), -2);
        PillarDesk most = Kit.lines("deposit 91 rate 999");
        due("25: 999 at most", most.falls(0, 91), 0);
        due("26: 999 at most", most.moves(0), 0);
        PillarDesk faint = Kit.lines("deposit 2 rate 0", "swap 32 every 30 rate 999", "opens : 1 = 1");
        due("26: one bump is too faint for the swap", faint.moves(0), 2);
        faint.bump(0, 1);
        due("26: the next one isn't", faint.moves(0), 6);
    }

    // ---- 27 to 31

    private static void worthMoveBumpedMover() {
        PillarDesk x = Kit.lines("deposit 91 rate 990", "forward 91 182 rate 300", "flow 182 plus 10", "flow 91 minus 3", "flow 0 plus 1");
        long at91 = UNIT * BASE / (BASE + 990 * 91);
        long at182 = at91 * BASE / (BASE + 300 * 91);
        due("27: worth", x.worth(), 10 * at182 - 3 * at91 + UNIT);
        long then91 = UNIT * BASE / (BASE + 991 * 91);
        long then182 = then91 * BASE / (BASE + 300 * 91);
        due("28: move", x.move(0), 10 * then182 - 3 * then91 - 10 * at182 + 3 * at91);
        due("28: no such", x.move(2), Kit.FAR - 2);
        due("28: no such", x.move(-1), Kit.FAR - 2);
        due("29: none", x.bumped(0, 0), x.worth());
        due("29: one", x.bumped(0, 1), x.worth() + x.move(0));
        due("29: 999 at most", x.bumped(0, 9), x.bumped(0, 999));
        due("29: not yet", x.bumped(0, 8) == x.bumped(0, 9) ? 1 : 0, 0);
        due("29: 0 at least", x.bumped(1, -999), 10 * at91 - 3 * at91 + UNIT);
        due("29: n", x.bumped(0, 1000), Kit.FAR - 3);
        due("29: n", x.bumped(0, -1000), Kit.FAR - 3);
        due("29: no such, ahead of n", x.bumped(2, 1000), Kit.FAR - 2);
        due("29: nothing is changed", x.input(0, 6), 990);
        due("30: none", new PillarDesk().mover(), -1);
        due("30: the first of alike ones", Kit.lines("deposit 7 rate 1", "deposit 14 rate 1").mover(), 0);
        due("30: the sign aside", Kit.lines("deposit 91 rate 1", "deposit 182 rate 1", "flow 182 plus 1").mover(), 1);
        due("30: the sign aside", Kit.lines("deposit 91 rate 1", "deposit 182 rate 1", "flow 182 minus 1").mover(), 1);
        due("30: by one bump each", Kit.lines("deposit 91 rate 998", "deposit 182 rate 0", "flow 91 plus 3", "flow 182 plus 1").mover(), 0);
        due("30: the greatest", Kit.lines("deposit 91 rate 1", "deposit 182 rate 1", "flow 182 minus 1", "flow 91 plus 99").mover(), 0);
    }

    private static void breaks() {
        PillarDesk x = Kit.lines("deposit 91 rate 0", "flow 91 plus 100", "flow 0 minus 99");
        long want = 0;
        while (100 * (UNIT * BASE / (BASE + want * 91)) - 99 * UNIT > 0) {
            want++;
        }
        due("31: breaks", x.breaks(0), want);
        due("31: the other sign", x.bumped(0, (int) want) <= 0 ? 1 : 0, 1);
        x.amount(0, -100);
        x.amount(1, 99);
        due("31: from below", x.breaks(0), want);
        x.amount(1, 9);
        due("31: none", x.breaks(0), -1);
        x.amount(0, 0);
        x.amount(1, 0);
        due("31: worth is 0", x.breaks(0), -1);
        due("31: no such", x.breaks(1), -2);
        due("31: no such", x.breaks(-1), -2);
        PillarDesk last = Kit.lines("deposit 900 rate 0", "flow 900 plus 781", "flow 0 minus 625", "opens : 1 = 1");
        due("31: at the greatest rate", last.breaks(0), 999);
        PillarDesk next = Kit.lines("deposit 900 rate 998", "flow 900 plus 781", "flow 0 minus 625", "opens : 1 = 1");
        due("31: by one", next.breaks(0), 1);
        PillarDesk none = Kit.lines("deposit 900 rate 998", "flow 900 plus 782", "flow 0 minus 625", "opens : 1 = 1");
        due("31: 999 at most", none.breaks(0), -1);
        PillarDesk zero = Kit.lines("deposit 800 rate 0", "flow 800 minus 10", "flow 0 plus 9", "opens : 1 = 1");
        due("31: 0, from below", zero.breaks(0), 500);
        due("31: 0", zero.bumped(0, 500), 0);
        zero.amount(0, 10);
        zero.amount(1, -9);
        due("31: 0, from above", zero.breaks(0), 500);
        PillarDesk exact = Kit.lines("deposit 720 rate 0", "flow 722 plus 6", "flow 0 minus 5", "opens : 1 = 1");
        due("31: 6 / (1 + n * 720 / BASE) = 5 at n = 1000, not met", exact.breaks(0), -1);
        PillarDesk met = Kit.lines("deposit 900 rate 0", "flow 900 plus 6", "flow 0 minus 5", "opens : 1 = 1");
        due("31: 6 / (1 + n * 900 / BASE) = 5 at n = 800", met.breaks(0), 800);
    }

    // ---- 32 to 34

    private static void hangFlatLeft() {
        PillarDesk x = Kit.lines(DEPOSIT, "forward 91 182 rate 300", "flow 30 plus 7", "flow 100 minus 5", "flow 500 plus 2");
        int w30 = 30 * 1000 / 91;
        int w100 = 9 * 1000 / 91;
        due("32: day 0", x.hang(0), 7 * (1000 - w30));
        due("32: between", x.hang(1), 7 * w30 - 5 * (1000 - w100));
        due("32: behind the last", x.hang(2), -5 * w100 + 2 * 1000);
        due("32: k", x.hang(3), Kit.FAR - 2);
        due("32: k", x.hang(-1), Kit.FAR - 2);
        long q2 = x.hang(2) * BASE * 1000;
        long own2 = 1000 * (BASE + 300 * 91);
        long take2 = -Math.floorDiv(2 * q2 + own2, 2 * own2);
        long q1 = x.hang(1) * BASE * 1000 - take2 * BASE * 1000;
        long own1 = 1000 * (BASE + 400 * 91);
        long take1 = -Math.floorDiv(2 * q1 + own1, 2 * own1);
        due("33: the last", x.flat(2), take2);
        due("33: the first", x.flat(1), take1);
        due("34: the last", x.left(2), q2 + take2 * own2);
        due("34: the first", x.left(1), q1 + take1 * own1);
        due("33: day 0", x.flat(0), Kit.FAR - 2);
        due("33: k", x.flat(3), Kit.FAR - 2);
        due("33: k", x.flat(-1), Kit.FAR - 2);
        due("34: day 0", x.left(0), Kit.FAR - 2);
        due("34: k", x.left(3), Kit.FAR - 2);
        swapFlat();
        forwardFlat();
    }

    private static void swapFlat() {
        PillarDesk x = Kit.lines(DEPOSIT, "swap 364 every 182 rate 500", "flow 364 plus 9");
        int early = 91 * 1000 / 273;
        long due = 500 * 182;
        long own2 = due * early + (due + BASE) * 1000;
        long q2 = 9000 * BASE * 1000;
        long take2 = -Math.floorDiv(2 * q2 + own2, 2 * own2);
        long q1 = take2 * due * (1000 - early);
        long own1 = 1000 * (BASE + 400 * 91);
        due("33: swap by a line", x.flat(2), take2);
        due("34: swap by a line", x.left(2), q2 + take2 * own2);
        due("33: what was taken of a later one", x.flat(1), -Math.floorDiv(2 * q1 + own1, 2 * own1));
        PillarDesk steps = Kit.told("desk first 0 curve 1 shift 0;deposit 91 rate 400;swap 364 every 182 rate 500;flow 363 plus 9;");
        due("32: by steps", steps.hang(1), 9000);
        due("32: by steps", steps.hang(2), 0);
        due("33: by steps", steps.flat(2), 0);
    }

    private static void forwardFlat() {
        PillarDesk x = Kit.lines(DEPOSIT, "forward 140 182 rate 300", "flow 182 minus 9");
        int start = 49 * 1000 / 91;
        long own2 = 1000 * (BASE + 300 * 42) - BASE * start;
        long q2 = -9000 * BASE * 1000;
        long take2 = -Math.floorDiv(2 * q2 + own2, 2 * own2);
        long q1 = -take2 * BASE * (1000 - start);
        long own1 = 1000 * (BASE + 400 * 91);
        due("33: forward from between", x.flat(2), take2);
        due("34: forward from between", x.left(2), q2 + take2 * own2);
        due("33: behind it", x.flat(1), -Math.floorDiv(2 * q1 + own1, 2 * own1));
    }

    // ---- 35, 36

    private static void shiftsAsk() {
        PillarDesk x = Kit.lines(DEPOSIT, "deposit 364 rate 400");
        due("35: missing", x.shifts(0), -6);
        due("36: missing", x.ask(0), -6);
        due("35: tray", x.shifts(4), -2);
        due("36: tray", x.ask(-1), -2);
        Kit.tray(x, 0);
        due("35: of none", x.shifts(0), -4);
        due("36: of none", x.ask(0), -4);
        Kit.tray(x, 0, 1, 1, 1, 1, 1, 1, 1, 1, -1);
        due("35: of nine", x.shifts(0), -4);
        Kit.tray(x, 0, 1, -1);
        due("35: below 0", x.shifts(0), -3);
        Kit.tray(x, 0, 1_000_000_000_000L);
        due("36: above", x.ask(0), -3);
        Kit.tray(x, 0, 999_999_999_999L);
        due("35: none such", x.shifts(0), 0);
        due("36: none such", x.ask(0), -1);
        Kit.tray(x, 0, 10_000_000L);
        due("35: day 0 tells nothing", x.shifts(0), 1023);
        due("36: the first that tells all", x.ask(0), 91);
        x.shift(7);
        long told = 91 * 100_000_000L + x.factor(91) / 100;
        x.shift(2);
        Kit.tray(x, 0, told);
        due("35: one", x.shifts(0), 1 << 7);
        due("36: one", x.ask(0), 0);
        Kit.tray(x, 0, told, 10_000_000L, told);
        due("35: all of them", x.shifts(0), 1 << 7);
        Kit.tray(x, 0, told, 10_000_001L);
        due("35: one isn't so", x.shifts(0), 0);
        due("35: nothing is changed", x.count(5), 2);
        PillarDesk parts = Kit.lines("deposit 7 rate 400", "deposit 91 rate 400",
                "rates : if input = 0 then if shift > 7 then 9 else 0 end else if shift > 3 then 300 else 0 end end");
        Kit.tray(parts, 0, 10_000_000L);
        due("36: the greatest number is least", parts.ask(0), 91);
        Kit.tray(parts, 0, 91 * 100_000_000L + UNIT * BASE / (BASE + 300 * 91) / 100);
        due("35: by a law", parts.shifts(0), 0b1111110000);
        due("36: of these", parts.ask(0), 7);
        PillarDesk halves = Kit.lines("deposit 7 rate 400", "deposit 91 rate 400",
                "rates : if input = 0 then if shift > 5 then 9 else 0 end else if shift > 4 then 300 else 0 end end");
        Kit.tray(halves, 0, 10_000_000L);
        due("36: six of ten, five of ten", halves.ask(0), 91);
        Kit.tray(x, 0, 10_000_000L, 10_000_000L, 10_000_000L, 10_000_000L, 10_000_000L, 10_000_000L, 10_000_000L, 10_000_000L);
        due("35: eight numbers", x.shifts(0), 1023);
        Kit.tray(x, 0, 0);
        due("35: a 0 can be told", x.shifts(0), 0);
    }

    // ---- 37, 38

    private static void chanceMean() {
        PillarDesk x = Kit.lines("deposit 364 rate 400", "deposit 91 rate 0", "flow 364 plus 999");
        long[] worth = new long[4];
        for (int k = 0; k < 4; k++) {
            worth[k] = 999 * (UNIT * BASE / (BASE + (400 + 50 * k) * 364));
        }
        due("37: no lot", x.chance(50, 999, 0, 0), 1);
        due("37: no lot", x.chance(50, 999, 0, 1), 1);
        due("37: no lot", x.chance(50, 0, 0, 0), 0);
        due("37: no lot", x.chance(50, 0, 0, 1), 1);
        long bar = worth[0] / UNIT;
        due("37: one lot", x.chance(50, bar, 1, 0), 1);
        due("37: one lot", x.chance(50, bar, 1, 1), 10);
        due("37: three lots: 1000 less 9 * 9 * 9", x.chance(50, bar, 3, 0), 271);
        due("37: three lots", x.chance(50, bar, 3, 1), 1000);
        due("37: two lots: 19 of 100", x.chance(50, bar, 2, 0), 19);
        due("37: all of them", x.chance(-50, 1_000_000, 3, 1), 1);
        due("38: no lot", x.mean(50, 0, 0), worth[0]);
        due("38: no lot", x.mean(50, 0, 1), 1);
        long sum = 729 * worth[0] + 243 * worth[1] + 27 * worth[2] + worth[3];
        long common = gcd(sum, 1000);
        due("38: three lots", x.mean(50, 3, 0), sum / common);
        due("38: three lots", x.mean(50, 3, 1), 1000 / common);
        x.amount(0, -999);
        due("38: less than 0", x.mean(50, 3, 0), -sum / common);
        due("38: below is above 0", x.mean(50, 3, 1), 1000 / common);
        x.amount(0, 0);
        due("38: nothing", x.mean(50, 3, 0), 0);
        due("38: nothing", x.mean(50, 3, 1), 1);
        due("37: what ahead of b", x.chance(100, 0, 0, 2), -2);
        due("37: what", x.chance(0, 0, 0, -1), -2);
        due("37: b", x.chance(100, 0, 0, 0), -3);
        due("37: b", x.chance(-100, 0, 0, 0), -3);
        due("37: k", x.chance(0, 1_000_001, 0, 0), -3);
        due("37: k", x.chance(0, -1_000_001, 0, 0), -3);
        due("37: k", x.chance(0, 4_294_967_296L, 0, 0), -3);
        due("37: n", x.chance(0, 0, 4, 0), -3);
        due("37: n", x.chance(0, 0, -1, 0), -3);
        due("37: bounds", x.chance(99, -1_000_000, 3, 0), 0);
        due("37: bounds", x.chance(-99, 1_000_000, 3, 0), 1);
        due("38: bounds", x.mean(-99, 3, 1), 1);
        due("38: bounds", x.mean(99, 3, 1), 1);
        PillarDesk five = Kit.lines("flow 0 plus 5");
        due("37: not below", five.chance(0, 5, 0, 0), 0);
        due("37: below", five.chance(0, 6, 0, 0), 1);
        due("38: what ahead of b", x.mean(100, 0, 2), Kit.FAR - 2);
        due("38: b", x.mean(100, 0, 0), Kit.FAR - 3);
        due("38: b", x.mean(-100, 0, 0), Kit.FAR - 3);
        due("38: n", x.mean(0, 4, 0), Kit.FAR - 3);
        due("38: n", x.mean(0, -1, 0), Kit.FAR - 3);
        drawnBounds();
    }

    /** Below 0 nothing more is lost, above 999 nothing more is won. */
    private static void drawnBounds() {
        PillarDesk low = Kit.lines("deposit 364 rate 60", "flow 364 plus 1");
        long same = UNIT * BASE / (BASE + 60 * 364);
        long less = UNIT * BASE / (BASE + 10 * 364);
        long sum = 81 * same + 18 * less + UNIT;
        due("38: 0 at least", low.mean(-50, 2, 0), sum / gcd(sum, 100));
        PillarDesk high = Kit.lines("deposit 364 rate 940", "flow 364 plus 1");
        long same2 = UNIT * BASE / (BASE + 940 * 364);
        long more = UNIT * BASE / (BASE + 990 * 364);
        long most = UNIT * BASE / (BASE + 999 * 364);
        long sum2 = 81 * same2 + 18 * more + most;
        due("38: 999 at most", high.mean(50, 2, 0), sum2 / gcd(sum2, 100));
    }

    private static long gcd(long a, long b) {
        return b == 0 ? a : gcd(b, a % b);
    }

    // ---- 39 to 41

    private static void trays() {
        PillarDesk x = Kit.lines(DEPOSIT);
        due("40: missing", x.write(3, 0, 1), -6);
        due("41: missing", x.lists(3), -6);
        due("39: tray", x.numbers(4, 0, 1), -2);
        due("39: tray", x.numbers(-1, 0, 1), -2);
        due("39: sort", x.numbers(0, 4, 1), -2);
        due("39: sort ahead of n", x.numbers(0, -1, 41), -2);
        due("39: n", x.numbers(0, 0, 41), -3);
        due("39: n", x.numbers(0, 0, -1), -3);
        due("39: still missing", x.write(0, 0, 1), -6);
        long v = 0x1234_5678_9ABC_DEF0L;
        long[] cut = {(byte) 0xF0, (short) 0xDEF0, 0x9ABC_DEF0, v};
        for (int sort = 0; sort < 4; sort++) {
            due("39: sort " + sort, x.numbers(sort, sort, 40), 0);
            due("40: cut " + sort, x.write(sort, 39, v), cut[sort]);
            due("40: least " + sort, x.write(sort, 0, Long.MIN_VALUE), sort == 3 ? Long.MIN_VALUE : 0);
            due("40: -1 " + sort, x.write(sort, 1, -1), -1);
        }
        due("40: no such number", x.write(0, 40, 1), -7);
        due("40: no such number", x.write(0, -1, 1), -7);
        due("40: tray", x.write(4, 0, 1), -2);
        due("40: tray", x.write(-1, 0, 1), -2);
        due("39: n, and the tray stays", x.numbers(0, 0, 41), -3);
        due("40: it stayed", x.write(0, 39, 5), 5);
        due("39: in place of another one", x.numbers(0, 3, 1), 0);
        due("40: no such number any more", x.write(0, 1, 5), -7);
        listed();
    }

    private static void listed() {
        PillarDesk x = Kit.lines(DEPOSIT);
        Kit.tray(x, 0, 13);
        due("17: a deed", x.perform(0), 1);
        x.numbers(0, 3, 1);
        due("39: all 0", x.judge(0, 1), 1);
        x.undo(1);
        Kit.tray(x, 0, 5, 5, 7);
        due("41: two pillars", x.lists(0), 2);
        Kit.tray(x, 1, 5);
        due("41: one place", x.lists(1), 1);
        x.numbers(2, 2, 0);
        due("41: no place", x.lists(2), 0);
        due("41: tray", x.lists(4), -2);
        due("41: tray", x.lists(-1), -2);
        Kit.tray(x, 0, 1, 2, -1);
        x.lists(0);
        due("41: the place behind stays", x.shifts(0), -3);
        Kit.tray(x, 0, -1, -1);
        x.lists(0);
        due("41: both places", x.shifts(0), 0);
        x.numbers(0, 1, 1);
        x.lists(0);
        due("41: 1000000000 is -13824 in 16 bits", x.shifts(0), -3);
        // What came into a tray is seen by the deeds and by what is told.
        PillarDesk y = Kit.lines("deposit 91 rate 0");
        y.numbers(0, 0, 2);
        due("41: cut to 8 bits", y.lists(0), 2);
        due("41: 1000000000 is 0 in 8 bits", y.judge(0, 0), 0);
        y.numbers(0, 3, 2);
        y.lists(0);
        due("41: told at day 10", y.shifts(0), 0);
        due("41: in 64 bits", Kit.lines("deposit 91 rate 0", "opens : 1 = 1").lists(0), -6);
    }

    // ---- 42 to 44

    private static void images() {
        PillarDesk x = new PillarDesk();
        due("43: none was made", x.restore(0), -5);
        due("43: no such", x.restore(2), -2);
        due("43: no such", x.restore(-1), -2);
        due("42: no such", x.image(2), -2);
        due("42: no such", x.image(-1), -2);
        due("42: of no desk", x.image(0), 0);
        Kit.tell(x, "desk first 5 curve 1 shift 4;holiday 9;deposit 91 rate 400;flow 3 plus 3;rates : told + 1;opens : date > 40;");
        x.bump(0, 5);
        x.amount(0, 55);
        x.shift(8);
        due("42: made", x.image(1), 0);
        x.bump(0, 5);
        due("43: the other", x.restore(0), 0);
        for (int what = 0; what <= 9; what++) {
            due("43: of no desk", x.count(what), 0);
        }
        due("43: days", x.open(0), 1);
        due("43: pillars", x.pillars(), 1);
        Kit.feed(x, "12345678901234567890");
        due("43: this one", x.restore(1), 0);
        int[] want = {1, 1, 1, 5, 1, 8, 405, 0, 20, 6};
        for (int what = 0; what <= 9; what++) {
            due("43: count(" + what + ")", x.count(what), want[what]);
        }
        due("43: amount", x.flow(0, 1), 55);
        due("43: nothing can be undone", x.undo(1), -3);
        due("43: law of rates", x.input(0, 6), 406);
        due("43: law of days", x.open(40), 0);
        due("43: put off", x.off(20), 41);
        due("43: factor", x.pillar(1, 1), UNIT * BASE / (BASE + 406 * 91));
        x.bump(0, 9);
        due("43: once more", x.restore(1), 0);
        due("43: as it was", x.input(0, 5), 405);
        due("42: in its place", x.image(0), 0);
        Kit.tell(x, Kit.HEAD);
        x.restore(0);
        due("43: the newer one", x.count(6), 405);
    }

    private static void counts() {
        PillarDesk x = Kit.told("desk first 3 curve 1 shift 4;holiday 1;holiday 1;deposit 9 rate 100;swap 99 every 30 rate 23;flow 1 plus 1;");
        int[] want = {2, 1, 2, 3, 1, 4, 123, 0, 0, 6};
        for (int what = 0; what <= 9; what++) {
            due("44: count(" + what + ")", x.count(what), want[what]);
        }
        x.shift(5);
        x.bump(0, -50);
        due("44: shift now", x.count(5), 5);
        due("44: rates now", x.count(6), 73);
        due("44: can be undone", x.count(7), 2);
        Kit.tell(x, Kit.HEAD + "deposit 9 rate 7;");
        due("44: of this desk alone", x.count(6), 7);
        due("27: of this desk alone", x.worth(), 0);
        due("32: of this desk alone", x.hang(0), 0);
        due("44: others", x.count(10), -1);
        due("44: others", x.count(-1), -1);
    }
}
