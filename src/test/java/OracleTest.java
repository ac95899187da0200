import java.nio.charset.StandardCharsets;
import java.util.ArrayList;
import java.util.List;
import java.util.Random;

/** Runs of drawn calls, each answered by the class and by the Oracle. Arguments: first seed, how many runs. */
public final class OracleTest {
    private static final long[] NUMBERS = {0, 1, -1, 7, 10, 19, 20, 127, 128, 255, 999, 1000, 1099, 1198, 1199, 8999, 9000, 9999,
        10000, 10999, 11998, 11999, 29999, 30000, 32768, 65535, Integer.MAX_VALUE, Integer.MIN_VALUE, 4294967296L, 10_000_000L,
        999_999_999_999L, 1_000_000_000_000L, Long.MAX_VALUE, Long.MIN_VALUE};
    private static final int[] EDGES = {-2147483648, -1000, -100, -2, -1, 0, 1, 2, 3, 4, 7, 8, 9, 10, 40, 41, 99, 100, 998, 999, 1000,
        9998, 9999, 10000, 2147483647};

    private final Random r;
    private final PillarDesk x = new PillarDesk();
    private final Oracle o = new Oracle();
    private final List<String> calls = new ArrayList<>();
    private boolean wrong = false;

    private OracleTest(long seed) {
        r = new Random(seed * 7919 + 17);
    }

    public static void main(String[] args) {
        long first = args.length > 0 ? Long.parseLong(args[0]) : 1;
        long many = args.length > 1 ? Long.parseLong(args[1]) : 400;
        int wrongRuns = 0;
        for (long seed = first; seed < first + many; seed++) {
            OracleTest test = new OracleTest(seed);
            test.run();
            if (test.wrong) {
                System.out.println("seed " + seed);
                test.calls.forEach(c -> System.out.println("  " + c));
                wrongRuns++;
                if (wrongRuns == 3) {
                    break;
                }
            }
        }
        System.out.println(many + " runs, wrong: " + wrongRuns);
        System.exit(wrongRuns == 0 ? 0 : 1);
    }

    private void run() {
        int many = 20 + r.nextInt(80);
        for (int k = 0; k < many && !wrong; k++) {
            int die = r.nextInt(100);
            if (k == 1 || die < 6) {
                tell();
            } else {
                callOne(die);
            }
        }
    }

    private void same(String call, long got, long want) {
        calls.add(call + " = " + got);
        if (got != want) {
            wrong = true;
            calls.add("   due: " + want);
        }
    }

    // ---- drawn texts

    private void tell() {
        String text = r.nextInt(12) == 0 ? heapedText() : drawnText();
        if (r.nextInt(6) == 0 && !text.isEmpty()) {
            int at = r.nextInt(text.length());
            String junk = new String[] {"", "?", "x", "7", "12", ";", "(", "not ", "desk ", "1234", "\t", "\u00e9", "told", "week", "end "}[r.nextInt(15)];
            text = text.substring(0, at) + junk + text.substring(at + r.nextInt(2));
        }
        if (text.length() > 900) {
            text = text.substring(0, 900);
        }
        byte[] bytes = text.getBytes(StandardCharsets.ISO_8859_1);
        for (int at = 0; at < bytes.length; at += 20) {
            int[] w = new int[5];
            for (int k = 0; k < 5; k++) {
                w[k] = Kit.word(bytes, at + 4 * k);
            }
            same("feed", x.feed(w[0], w[1], w[2], w[3], w[4]), o.feed(w));
        }
        int n = r.nextInt(30) == 0 ? r.nextInt(910) - 3 : text.length();
        same("desk(" + n + ") " + text, x.desk(n), o.desk(n));
        same("fault(0)", x.fault(0), o.fault(0));
        same("fault(1)", x.fault(1), o.fault(1));
    }

    private String gap() {
        int die = r.nextInt(12);
        return die == 0 ? "\n" : die == 1 ? "  " : " ";
    }

    private int day() {
        return r.nextInt(4) == 0 ? r.nextInt(40) : r.nextInt(5) == 0 ? EDGES[5 + r.nextInt(15)] % 1000 : r.nextInt(1000);
    }

    private int rate() {
        int die = r.nextInt(6);
        return die == 0 ? 0 : die == 1 ? 999 - r.nextInt(3) : die < 4 ? r.nextInt(120) : r.nextInt(1000);
    }

    private String drawnText() {
        StringBuilder s = new StringBuilder("desk" + gap() + "first " + r.nextInt(7) + gap() + "curve " + r.nextInt(2)
                + gap() + "shift" + gap() + r.nextInt(10) + ";");
        int many = r.nextInt(16);
        int laws = 0;
        int crowd = r.nextInt(4);
        for (int k = 0; k < many; k++) {
            int die = r.nextInt(14);
            if (die < 2) {
                s.append("holiday").append(gap()).append(day() % 400);
            } else if (die < 4) {
                s.append("deposit ").append(crowd == 0 ? 1 + r.nextInt(40) : Math.max(1, day())).append(" rate ").append(rate());
            } else if (die < 7) {
                int a = crowd == 0 ? r.nextInt(40) : r.nextInt(999);
                int b = Math.min(999, a + 1 + r.nextInt(r.nextBoolean() ? 5 : 400));
                s.append("forward ").append(a).append(gap()).append(b).append(" rate ").append(rate());
            } else if (die < 10) {
                int every = r.nextInt(3) == 0 ? 30 + r.nextInt(10) : 30 + r.nextInt(400);
                s.append("swap ").append(Math.max(1, day())).append(" every ").append(every).append(" rate ").append(rate());
            } else if (die < 13) {
                s.append("flow ").append(day()).append(r.nextBoolean() ? " plus " : " minus ").append(r.nextInt(1000));
            } else if (laws++ < 3) {
                s.append(r.nextBoolean() ? "rates : " + sum(true, 0) : "opens : " + (r.nextBoolean() ? tameTruth() : truth(false, 0)));
            } else {
                s.append("flow 5 plus 5");
            }
            s.append(";");
        }
        return s.toString();
    }

    /** Many of one kind of line, to pass what is most. */
    private String heapedText() {
        String line = new String[] {"holiday 3;", "deposit 5 rate 1;", "forward 4 9 rate 2;", "swap 90 every 30 rate 3;", "flow 2 plus 1;"}[r.nextInt(5)];
        int many = 7 + r.nextInt(7);
        return "desk first 3 curve 1 shift 4;" + line.repeat(many);
    }

    private String tameTruth() {
        return new String[] {"week < 5 and holiday = 0", "date > " + r.nextInt(300), "week = 2", "date = 40 or date = 80 or date = 500",
            "not holiday = 1", "[week > 1 or date < 9] and not week = 6", "1 = 2", "date * date > 250000"}[r.nextInt(8)];
    }

    private String sum(boolean rates, int deep) {
        StringBuilder s = new StringBuilder(term(rates, deep));
        for (int k = r.nextInt(5) - 2; k > 0; k--) {
            s.append(r.nextBoolean() ? "+" : " - ").append(term(rates, deep));
        }
        return s.toString();
    }

    private String term(boolean rates, int deep) {
        StringBuilder s = new StringBuilder(atom(rates, deep));
        for (int k = r.nextInt(5) - 3; k > 0; k--) {
            s.append(" * ").append(atom(rates, deep));
        }
        return s.toString();
    }

    private String atom(boolean rates, int deep) {
        int die = r.nextInt(10);
        if (die < 3 || deep > 8) {
            return "" + (r.nextInt(3) == 0 ? r.nextInt(1000) : r.nextInt(8));
        }
        if (die < 7) {
            return rates ? new String[] {"told", "days", "kind", "shift", "input"}[r.nextInt(5)]
                    : new String[] {"week", "holiday", "date"}[r.nextInt(3)];
        }
        if (die == 7) {
            return "(" + sum(rates, deep + 1) + ")";
        }
        return "if " + truth(rates, deep + 1) + " then " + sum(rates, deep + 1) + " else " + sum(rates, deep + 1) + " end";
    }

    private String truth(boolean rates, int deep) {
        StringBuilder s = new StringBuilder(unit(rates, deep));
        for (int k = r.nextInt(5) - 2; k > 0; k--) {
            s.append(r.nextBoolean() ? " and " : " or ").append(unit(rates, deep));
        }
        return s.toString();
    }

    private String unit(boolean rates, int deep) {
        int die = deep > 8 ? 9 : r.nextInt(8);
        if (die < 2) {
            return "not " + unit(rates, deep + 1);
        }
        if (die < 3) {
            return "[" + truth(rates, deep + 1) + "]";
        }
        return sum(rates, deep) + new String[] {"=", " < ", ">"}[r.nextInt(3)] + sum(rates, deep);
    }

    // ---- drawn calls

    private int some(int most) {
        return r.nextInt(8) == 0 ? EDGES[r.nextInt(EDGES.length)] : r.nextInt(most);
    }

    private void callOne(int die) {
        if (die < 20) {
            deskCall();
        } else if (die < 35) {
            dayCall();
        } else if (die < 55) {
            deedCall();
        } else if (die < 70) {
            curveCall();
        } else if (die < 85) {
            bookCall();
        } else if (die < 93) {
            trayCall();
        } else {
            toldCall();
        }
    }

    private void deskCall() {
        int a = some(8);
        int b = some(9);
        switch (r.nextInt(5)) {
            case 0 -> same("input(" + a + ", " + b + ")", x.input(a, b), o.input(a, b));
            case 1 -> same("flow(" + a + ", " + b + ")", x.flow(a, b % 3), o.flow(a, b % 3));
            case 2 -> same("count(" + b + ")", x.count(b), o.count(b));
            case 3 -> same("fault(" + b + ")", x.fault(b), o.fault(b));
            default -> {
                int junk = r.nextInt();
                same("feed", x.feed(junk, 1, 2, 3, 4), o.feed(junk, 1, 2, 3, 4));
                same("count(8)", x.count(8), o.count(8));
            }
        }
    }

    private void dayCall() {
        int d = r.nextBoolean() ? some(60) : some(1000);
        int n = some(99);
        switch (r.nextInt(5)) {
            case 0 -> same("open(" + d + ")", x.open(d), o.open(d));
            case 1 -> same("off(" + d + ")", x.off(d), o.off(d));
            case 2 -> same("opens(" + d + ", " + (d + n) + ")", x.opens(d, d + n), o.opens(d, d + n));
            case 3 -> same("business(" + d + ", " + n + ")", x.business(d, n), o.business(d, n));
            default -> {
                int i = some(8);
                int k = some(12);
                same("period(" + i + ", " + k + ")", x.period(i, k), o.period(i, k));
            }
        }
    }

    private void deedCall() {
        int i = some(8);
        int n = some(100) * (r.nextBoolean() ? 1 : -1);
        int tray = some(4);
        switch (r.nextInt(7)) {
            case 0 -> same("bump(" + i + ", " + n + ")", x.bump(i, n), o.bump(i, n));
            case 1 -> same("shift(" + i + ")", x.shift(i), o.shift(i));
            case 2 -> same("amount(" + i + ", " + 10 * n + ")", x.amount(i, 10 * n), o.amount(i, 10 * n));
            case 3 -> same("undo(" + (1 + i / 3) + ")", x.undo(1 + i / 3), o.undo(1 + i / 3));
            case 4 -> same("judge(" + tray + ", " + n % 4 + ")", x.judge(tray, n % 4), o.judge(tray, n % 4));
            case 5 -> same("perform(" + tray + ")", x.perform(tray), o.perform(tray));
            default -> {
                int seed = r.nextInt();
                int times = some(41);
                same("week(" + seed + ", " + times + ")", x.week(seed, times), o.week(seed, times));
            }
        }
    }

    private void curveCall() {
        int i = some(8);
        int d = some(1000);
        int e = d + some(400);
        switch (r.nextInt(8)) {
            case 0 -> same("pillars()", x.pillars(), o.pillars());
            case 1 -> same("pillar(" + i + ", " + d % 3 + ")", x.pillar(i, d % 3), o.pillar(i, d % 3));
            case 2 -> same("factor(" + d + ")", x.factor(d), o.factor(d));
            case 3 -> same("forward(" + d + ", " + e + ")", x.forward(d, e), o.forward(d, e));
            case 4 -> same("implied(" + i + ")", x.implied(i), o.implied(i));
            case 5 -> same("sound()", x.sound(), o.sound());
            case 6 -> same("falls(" + i + ", " + d + ")", x.falls(i, d), o.falls(i, d));
            default -> same("moves(" + i + ")", x.moves(i), o.moves(i));
        }
    }

    private void bookCall() {
        int i = some(8);
        int k = some(7);
        int n = (r.nextInt(20) == 0 ? some(1001) : r.nextInt(1000)) * (r.nextBoolean() ? 1 : -1);
        switch (r.nextInt(8)) {
            case 0 -> same("worth()", x.worth(), o.worth());
            case 1 -> same("move(" + i + ")", x.move(i), o.move(i));
            case 2 -> same("bumped(" + i + ", " + n + ")", x.bumped(i, n), o.bumped(i, n));
            case 3 -> same("mover()", x.mover(), o.mover());
            case 4 -> {
                if (r.nextInt(4) == 0) {
                    same("breaks(" + i + ")", x.breaks(i), o.breaks(i));
                }
            }
            case 5 -> same("hang(" + k + ")", x.hang(k), o.hang(k));
            case 6 -> same("flat(" + k + ")", x.flat(k), o.flat(k));
            default -> same("left(" + k + ")", x.left(k), o.left(k));
        }
    }

    private long deed() {
        return switch (r.nextInt(8)) {
            case 0 -> NUMBERS[r.nextInt(NUMBERS.length)];
            case 1, 2 -> 10 + r.nextInt(10);
            case 3, 4, 5 -> 1000 + 1000 * r.nextInt(4) + r.nextInt(200);
            default -> 10000 + 2000 * r.nextInt(4) + r.nextInt(2000);
        };
    }

    private void trayCall() {
        int tray = some(4);
        int i = some(5);
        switch (r.nextInt(5)) {
            case 0 -> same("image(" + i % 3 + ")", x.image(i % 3), o.image(i % 3));
            case 1 -> same("restore(" + i % 3 + ")", x.restore(i % 3), o.restore(i % 3));
            case 2 -> {
                same("lists(" + tray + ")", x.lists(tray), o.lists(tray));
            }
            default -> {
                int sort = r.nextInt(12) == 0 ? some(5) : r.nextInt(4);
                int n = r.nextInt(12) == 0 ? some(41) : r.nextInt(9);
                same("numbers(" + tray + ", " + sort + ", " + n + ")", x.numbers(tray, sort, n), o.numbers(tray, sort, n));
                for (int k = 0; k <= Math.min(n, 41); k++) {
                    long v = deed();
                    same("write(" + tray + ", " + k + ", " + v + ")", x.write(tray, k, v), o.write(tray, k, v));
                }
            }
        }
    }

    private void toldCall() {
        int b = r.nextInt(8) == 0 ? some(101) : r.nextInt(199) - 99;
        int n = r.nextInt(8) == 0 ? some(5) : r.nextInt(4);
        int what = r.nextInt(10) == 0 ? some(3) : r.nextInt(2);
        int die = r.nextInt(4);
        if (die == 0) {
            long near = o.worth() / Oracle.UNIT + r.nextInt(3) - 1;
            long k = r.nextInt(5) == 0 ? NUMBERS[r.nextInt(NUMBERS.length)] : near;
            same("chance(" + b + ", " + k + ", " + n + ", " + what + ")", x.chance(b, k, n, what), o.chance(b, k, n, what));
        } else if (die == 1) {
            same("mean(" + b + ", " + n + ", " + what + ")", x.mean(b, n, what), o.mean(b, n, what));
        } else {
            askTold();
        }
    }

    private void askTold() {
        int tray = r.nextInt(4);
        if (r.nextInt(5) > 0) {
            int many = r.nextInt(9) == 0 ? r.nextInt(11) : 1 + r.nextInt(2);
            same("numbers", x.numbers(tray, 3, many), o.numbers(tray, 3, many));
            int shift = r.nextInt(10);
            var ps = o.solve(o.counts(o.state.withShift(shift)));
            for (int k = 0; k < many; k++) {
                int day = r.nextInt(3) == 0 ? 0 : r.nextInt(r.nextBoolean() ? 12 : 1000);
                long v = day * 100_000_000L + o.factorAt(ps, day) / 100;
                v = r.nextInt(15) == 0 ? NUMBERS[r.nextInt(NUMBERS.length)] : v;
                same("write " + v, x.write(tray, k, v), o.write(tray, k, v));
            }
        }
        same("shifts(" + tray + ")", x.shifts(tray), o.shifts(tray));
        same("ask(" + tray + ")", x.ask(tray), o.ask(tray));
    }
}
