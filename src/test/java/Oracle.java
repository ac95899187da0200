import java.util.ArrayDeque;
import java.util.ArrayList;
import java.util.Arrays;
import java.util.Comparator;
import java.util.Deque;
import java.util.HashMap;
import java.util.List;
import java.util.Map;
import java.util.function.Function;
import java.util.function.ToLongFunction;

/** The document's words taken one by one, as slowly and as plainly as can be: a second opinion for OracleTest. */
final class Oracle {
    static final long UNIT = 1_000_000_000L;
    static final long BASE = 3_600_000L;
    static final long FAR = -9_000_000_000_000_000_000L;

    interface Env extends Function<String, Long> {
    }

    interface Sum extends ToLongFunction<Env> {
    }

    record Input(int kind, int start, int end, int every) {
    }

    record Pillar(int day, long factor, int input) {
    }

    static final class Desk {
        int first;
        int curve;
        int lines;
        List<Integer> holidays = new ArrayList<>();
        List<Input> inputs = new ArrayList<>();
        List<Integer> flowDays = new ArrayList<>();
        Sum rates;
        Sum opens;
        State told = new State(new int[8], new int[10], 0);
    }

    record State(int[] rates, int[] amounts, int shift) {
        State copy() {
            return new State(rates.clone(), amounts.clone(), shift);
        }

        State withShift(int s) {
            return new State(rates.clone(), amounts.clone(), s);
        }
    }

    static final class Fault extends RuntimeException {
        final int kind;
        final int place;

        Fault(int kind, int place) {
            this.kind = kind;
            this.place = place;
        }
    }

    List<Integer> tape = new ArrayList<>();
    Desk desk = new Desk();
    State state = desk.told.copy();
    Deque<State> undos = new ArrayDeque<>();
    int faultKind = 0;
    int faultPlace = -1;
    long[][] trays = new long[4][];
    int[] sorts = new int[4];
    Desk[] imageDesk = new Desk[2];
    State[] imageState = new State[2];

    // ---------------------------------------------------------------- the text

    record Token(String text, int place) {
    }

    static final class Parser {
        final List<Token> tokens = new ArrayList<>();
        int at = 0;
        Desk out = new Desk();
        String words;

        Parser(String text) {
            int p = 0;
            while (p < text.length()) {
                char c = text.charAt(p);
                if (c == 10 || c == 32) {
                    p++;
                    continue;
                }
                int q = p;
                if (c >= 'a' && c <= 'z') {
                    while (q < text.length() && text.charAt(q) >= 'a' && text.charAt(q) <= 'z') {
                        q++;
                    }
                } else if (c >= '0' && c <= '9') {
                    while (q < text.length() && text.charAt(q) >= '0' && text.charAt(q) <= '9') {
                        q++;
                    }
                    if (q - p > 3) {
                        tokens.add(new Token("?", p));
                        return;
                    }
                } else if (";:+-*()[]=<>".indexOf(c) >= 0) {
                    q++;
                } else {
                    tokens.add(new Token("?", p));
                    return;
                }
                tokens.add(new Token(text.substring(p, q), p));
                p = q;
            }
            tokens.add(new Token("", text.length()));
        }

        String look() {
            Token t = tokens.get(at);
            if (t.text.equals("?")) {
                throw new Fault(1, t.place);
            }
            return t.text;
        }

        Fault bad(int kind) {
            look();
            return new Fault(kind, tokens.get(at).place);
        }

        void take(String want) {
            if (!look().equals(want)) {
                throw bad(2);
            }
            at++;
        }

        boolean isNumber() {
            return !look().isEmpty() && Character.isDigit(look().charAt(0));
        }

        int number(int least, int most) {
            if (!isNumber()) {
                throw bad(2);
            }
            int v = Integer.parseInt(look());
            if (v < least || v > most) {
                throw bad(3);
            }
            at++;
            return v;
        }

        Desk parse() {
            take("desk");
            take("first");
            out.first = number(0, 6);
            take("curve");
            out.curve = number(0, 1);
            take("shift");
            out.told = out.told.withShift(number(0, 9));
            take(";");
            out.lines = 1;
            while (!look().isEmpty()) {
                line();
                take(";");
                out.lines++;
            }
            return out;
        }

        void line() {
            switch (look()) {
                case "holiday" -> {
                    if (out.holidays.size() == 12) {
                        throw bad(4);
                    }
                    at++;
                    out.holidays.add(number(0, 999));
                }
                case "deposit", "forward", "swap" -> inputLine();
                case "flow" -> {
                    if (out.flowDays.size() == 10) {
                        throw bad(4);
                    }
                    at++;
                    int day = number(0, 999);
                    boolean minus = look().equals("minus");
                    if (!minus && !look().equals("plus")) {
                        throw bad(2);
                    }
                    at++;
                    int size = number(0, 999);
                    out.told.amounts[out.flowDays.size()] = minus ? -size : size;
                    out.flowDays.add(day);
                }
                case "rates" -> {
                    at++;
                    take(":");
                    words = " told days kind shift input ";
                    out.rates = sum(0);
                }
                case "opens" -> {
                    at++;
                    take(":");
                    words = " week holiday date ";
                    out.opens = truth(0);
                }
                default -> throw bad(2);
            }
        }

        void inputLine() {
            if (out.inputs.size() == 8) {
                throw bad(4);
            }
            String kind = look();
            at++;
            int start = 0;
            int every = 0;
            int end;
            if (kind.equals("forward")) {
                start = number(0, 998);
                end = number(start + 1, 999);
            } else {
                end = number(1, 999);
            }
            if (kind.equals("swap")) {
                take("every");
                every = number(30, 999);
            }
            take("rate");
            out.told.rates[out.inputs.size()] = number(0, 999);
            out.inputs.add(new Input(kind.equals("deposit") ? 0 : kind.equals("forward") ? 1 : 2, start, end, every));
        }

        static long kept(long v) {
            return Math.max(-1_000_000, Math.min(1_000_000, v));
        }

        Sum sum(int deep) {
            Sum left = term(deep);
            while (look().equals("+") || look().equals("-")) {
                boolean plus = look().equals("+");
                at++;
                Sum a = left;
                Sum b = term(deep);
                left = plus ? e -> kept(a.applyAsLong(e) + b.applyAsLong(e)) : e -> kept(a.applyAsLong(e) - b.applyAsLong(e));
            }
            return left;
        }

        Sum term(int deep) {
            Sum left = atom(deep);
            while (look().equals("*")) {
                at++;
                Sum a = left;
                Sum b = atom(deep);
                left = e -> kept(a.applyAsLong(e) * b.applyAsLong(e));
            }
            return left;
        }

        void deeper(int deep) {
            if (deep == 6) {
                throw bad(4);
            }
            at++;
        }

        Sum atom(int deep) {
            String t = look();
            if (isNumber()) {
                long v = number(0, 999);
                return e -> v;
            }
            if (t.equals("(")) {
                deeper(deep);
                Sum inner = sum(deep + 1);
                take(")");
                return inner;
            }
            if (t.equals("if")) {
                deeper(deep);
                Sum c = truth(deep + 1);
                take("then");
                Sum a = sum(deep + 1);
                take("else");
                Sum b = sum(deep + 1);
                take("end");
                return e -> c.applyAsLong(e) == 1 ? a.applyAsLong(e) : b.applyAsLong(e);
            }
            if (!t.isEmpty() && words.contains(" " + t + " ")) {
                at++;
                return e -> e.apply(t);
            }
            throw bad(2);
        }

        Sum truth(int deep) {
            Sum left = both(deep);
            while (look().equals("or")) {
                at++;
                Sum a = left;
                Sum b = both(deep);
                left = e -> a.applyAsLong(e) == 1 || b.applyAsLong(e) == 1 ? 1 : 0;
            }
            return left;
        }

        Sum both(int deep) {
            Sum left = unit(deep);
            while (look().equals("and")) {
                at++;
                Sum a = left;
                Sum b = unit(deep);
                left = e -> a.applyAsLong(e) == 1 && b.applyAsLong(e) == 1 ? 1 : 0;
            }
            return left;
        }

        Sum unit(int deep) {
            if (look().equals("not")) {
                deeper(deep);
                Sum inner = unit(deep + 1);
                return e -> inner.applyAsLong(e) == 1 ? 0 : 1;
            }
            if (look().equals("[")) {
                deeper(deep);
                Sum inner = truth(deep + 1);
                take("]");
                return inner;
            }
            Sum a = sum(deep);
            String sign = look();
            if (!sign.equals("=") && !sign.equals("<") && !sign.equals(">")) {
                throw bad(2);
            }
            at++;
            Sum b = sum(deep);
            return switch (sign) {
                case "=" -> e -> a.applyAsLong(e) == b.applyAsLong(e) ? 1 : 0;
                case "<" -> e -> a.applyAsLong(e) < b.applyAsLong(e) ? 1 : 0;
                default -> e -> a.applyAsLong(e) > b.applyAsLong(e) ? 1 : 0;
            };
        }
    }

    // ---------------------------------------------------------------- days

    boolean isOpen(int d) {
        long week = (desk.first + d) % 7;
        long holiday = desk.holidays.contains(d) ? 1 : 0;
        if (desk.opens == null) {
            return week < 5 && holiday == 0;
        }
        return desk.opens.applyAsLong(w -> w.equals("week") ? week : w.equals("holiday") ? holiday : (long) d) == 1;
    }

    int putOff(int d) {
        for (int x = d; x <= d + 30; x++) {
            if (isOpen(x)) {
                return x;
            }
        }
        return d;
    }

    int startOff(int i) {
        Input in = desk.inputs.get(i);
        return in.kind == 1 ? putOff(in.start) : 0;
    }

    int endOff(int i) {
        return putOff(desk.inputs.get(i).end);
    }

    List<Integer> periodEnds(int i) {
        Input in = desk.inputs.get(i);
        List<Integer> ends = new ArrayList<>();
        for (int d = in.end; d > 0; d -= in.every) {
            ends.add(0, putOff(d));
        }
        return ends;
    }

    // ---------------------------------------------------------------- the curve

    int[] counts(State s) {
        int[] out = new int[desk.inputs.size()];
        for (int i = 0; i < out.length; i++) {
            int number = i;
            long v = s.rates[i] + s.shift;
            if (desk.rates != null) {
                v = desk.rates.applyAsLong(w -> switch (w) {
                    case "told" -> (long) s.rates[number];
                    case "days" -> (long) (endOff(number) - startOff(number));
                    case "kind" -> (long) desk.inputs.get(number).kind;
                    case "shift" -> (long) s.shift;
                    default -> (long) number;
                });
            }
            out[i] = (int) Math.max(0, Math.min(999, v));
        }
        return out;
    }

    long factorAt(List<Pillar> ps, int day) {
        Pillar last = ps.get(ps.size() - 1);
        if (day >= last.day) {
            return last.factor;
        }
        for (int k = 0; k + 1 < ps.size(); k++) {
            Pillar a = ps.get(k);
            Pillar b = ps.get(k + 1);
            if (day == a.day) {
                return a.factor;
            }
            if (day > a.day && day < b.day) {
                return desk.curve == 1 ? a.factor
                        : a.factor + Math.floorDiv(Math.multiplyExact(b.factor - a.factor, (long) (day - a.day)), (long) (b.day - a.day));
            }
        }
        throw new IllegalStateException();
    }

    boolean unmet(int i) {
        return madeOrder().stream().noneMatch(k -> k == i);
    }

    private Desk orderDesk;
    private List<Integer> orderKept;
    private List<List<Integer>> endsKept;

    /** Those inputs that are met, in their order. */
    List<Integer> madeOrder() {
        if (orderDesk == desk) {
            return orderKept;
        }
        List<Integer> all = new ArrayList<>();
        for (int i = 0; i < desk.inputs.size(); i++) {
            all.add(i);
        }
        all.sort(Comparator.comparing((Integer i) -> endOff(i)).thenComparing(i -> i));
        List<Integer> met = new ArrayList<>();
        for (int i : all) {
            boolean taken = met.stream().anyMatch(m -> endOff(m) == endOff(i));
            if (!taken && !(desk.inputs.get(i).kind == 1 && startOff(i) >= endOff(i))) {
                met.add(i);
            }
        }
        endsKept = new ArrayList<>();
        for (int i = 0; i < desk.inputs.size(); i++) {
            endsKept.add(desk.inputs.get(i).kind == 2 ? periodEnds(i) : List.of(endOff(i)));
        }
        orderKept = met;
        orderDesk = desk;
        return met;
    }

    List<Pillar> solve(int[] counted) {
        List<Pillar> ps = new ArrayList<>();
        ps.add(new Pillar(0, UNIT, -1));
        for (int i : madeOrder()) {
            int end = endOff(i);
            int start = startOff(i);
            long low = 0;
            long high = UNIT + 1;
            while (low + 1 < high) {
                long f = (low + high) / 2;
                ps.add(new Pillar(end, f, i));
                if (fits(ps, i, counted[i], f, start, end)) {
                    low = f;
                } else {
                    high = f;
                }
                ps.remove(ps.size() - 1);
            }
            ps.add(new Pillar(end, low, i));
        }
        return ps;
    }

    boolean fits(List<Pillar> ps, int i, long rate, long f, int start, int end) {
        switch (desk.inputs.get(i).kind) {
            case 0:
                return Math.multiplyExact(f, BASE + rate * end) <= UNIT * BASE;
            case 1:
                return Math.multiplyExact(f, BASE + rate * (end - start)) <= BASE * factorAt(ps, start);
            default:
                long sum = 0;
                int from = 0;
                for (int to : endsKept.get(i)) {
                    sum = Math.addExact(sum, Math.multiplyExact(rate * (to - from), factorAt(ps, to)));
                    from = to;
                }
                return f + Math.floorDiv(sum, BASE) <= UNIT;
        }
    }

    List<Pillar> curve() {
        return solve(counts(state));
    }

    List<Pillar> curveWith(int i, int n) {
        int[] counted = counts(state);
        counted[i] = Math.max(0, Math.min(999, counted[i] + n));
        return solve(counted);
    }

    long worthOf(List<Pillar> ps) {
        long sum = 0;
        for (int k = 0; k < desk.flowDays.size(); k++) {
            sum += state.amounts[k] * factorAt(ps, desk.flowDays.get(k));
        }
        return sum;
    }

    boolean noInput(int i) {
        return i < 0 || i >= desk.inputs.size();
    }

    boolean noFlow(int k) {
        return k < 0 || k >= desk.flowDays.size();
    }

    boolean noTray(int t) {
        return t < 0 || t > 3;
    }

    boolean noDay(int d) {
        return d < 0 || d > 9999;
    }

    // ---------------------------------------------------------------- the face

    int feed(int... words) {
        if (tape.size() + 20 > 900) {
            return -5;
        }
        for (int w : words) {
            tape.add(w >>> 24 & 255);
            tape.add(w >>> 16 & 255);
            tape.add(w >>> 8 & 255);
            tape.add(w & 255);
        }
        return tape.size();
    }

    int desk(int n) {
        if (n < 0 || n > tape.size()) {
            return -3;
        }
        StringBuilder text = new StringBuilder();
        for (int k = 0; k < n; k++) {
            text.append((char) (int) tape.get(k));
        }
        tape.clear();
        try {
            Desk d = new Parser(text.toString()).parse();
            faultKind = 0;
            faultPlace = -1;
            desk = d;
            state = d.told.copy();
            undos.clear();
            return d.lines;
        } catch (Fault f) {
            faultKind = f.kind;
            faultPlace = f.place;
            return -30 - f.kind;
        }
    }

    int fault(int what) {
        return what == 0 ? faultKind : what == 1 ? faultPlace : -1;
    }

    int input(int i, int what) {
        if (noInput(i) || what < 0 || what > 8) {
            return -2;
        }
        Input in = desk.inputs.get(i);
        return switch (what) {
            case 0 -> in.kind;
            case 1 -> in.start;
            case 2 -> in.end;
            case 3 -> startOff(i);
            case 4 -> endOff(i);
            case 5 -> state.rates[i];
            case 6 -> counts(state)[i];
            case 7 -> in.every;
            default -> unmet(i) ? 1 : 0;
        };
    }

    long flow(int k, int what) {
        if (noFlow(k) || what < 0 || what > 1) {
            return FAR - 2;
        }
        return what == 0 ? desk.flowDays.get(k) : state.amounts[k];
    }

    int open(int d) {
        return noDay(d) ? -3 : isOpen(d) ? 1 : 0;
    }

    int off(int d) {
        return noDay(d) ? -3 : putOff(d);
    }

    int opens(int a, int b) {
        if (a < 0 || a > 999 || b < a || b > 999) {
            return -3;
        }
        int n = 0;
        for (int d = a; d < b; d++) {
            n += isOpen(d) ? 1 : 0;
        }
        return n;
    }

    int business(int d, int n) {
        if (d < 0 || d > 999 || n < 1 || n > 99) {
            return -3;
        }
        int seen = 0;
        for (int x = d + 1; x <= d + 999; x++) {
            if (isOpen(x) && ++seen == n) {
                return x;
            }
        }
        return -1;
    }

    int period(int i, int k) {
        if (noInput(i) || desk.inputs.get(i).kind != 2) {
            return -2;
        }
        if (k < 0) {
            return -3;
        }
        List<Integer> ends = periodEnds(i);
        return k < ends.size() ? ends.get(k) : -1;
    }

    void did(State was) {
        undos.push(was);
        while (undos.size() > 10) {
            undos.removeLast();
        }
    }

    int whyBump(State s, int i, int n) {
        if (noInput(i) || n < -99 || n > 99) {
            return 1;
        }
        if (s.rates[i] + n < 0 || s.rates[i] + n > 999) {
            return 2;
        }
        s.rates[i] += n;
        return 0;
    }

    int whyAmount(State s, int k, int n) {
        if (noFlow(k) || n < -999 || n > 999) {
            return 1;
        }
        s.amounts[k] = n;
        return 0;
    }

    int bump(int i, int n) {
        State was = state.copy();
        int why = whyBump(state, i, n);
        if (why != 0) {
            return -10 - why;
        }
        did(was);
        return state.rates[i];
    }

    int shift(int n) {
        if (n < 0 || n > 9) {
            return -11;
        }
        State was = state;
        did(was);
        state = was.withShift(n);
        return was.shift;
    }

    int amount(int k, int n) {
        State was = state.copy();
        int why = whyAmount(state, k, n);
        if (why != 0) {
            return -10 - why;
        }
        did(was);
        return 0;
    }

    int undo(int n) {
        if (n < 1 || n > 10 || n > undos.size()) {
            return -3;
        }
        for (int k = 0; k < n; k++) {
            state = undos.pop();
        }
        return undos.size();
    }

    /** A state with the deed done, or null with why in whyLast. */
    int whyLast;

    State done(State s, long v) {
        State t = s.copy();
        whyLast = 1;
        if (v >= 10 && v <= 19) {
            whyLast = 0;
            return s.withShift((int) v - 10);
        }
        if (v >= 1000 && v <= 8999) {
            whyLast = v % 1000 - 99 > 99 ? 1 : whyBump(t, (int) (v / 1000) - 1, (int) (v % 1000) - 99);
        } else if (v >= 10000 && v <= 29999) {
            long rest = (v - 10000) % 2000 - 999;
            whyLast = rest > 999 ? 1 : whyAmount(t, (int) ((v - 10000) / 2000), (int) rest);
        }
        return whyLast == 0 ? t : null;
    }

    int judge(int tray, int what) {
        if (noTray(tray) || what < 0 || what > 3) {
            return -2;
        }
        if (trays[tray] == null) {
            return -6;
        }
        State s = state;
        int place = -1;
        int why = 0;
        for (int k = 0; k < trays[tray].length && place < 0; k++) {
            State t = done(s, trays[tray][k]);
            if (t == null) {
                place = k;
                why = whyLast;
            } else {
                s = t;
            }
        }
        List<Pillar> ps = solve(counts(s));
        return switch (what) {
            case 0 -> place;
            case 1 -> why;
            case 2 -> Arrays.stream(s.rates, 0, desk.inputs.size()).sum();
            default -> (int) (ps.get(ps.size() - 1).factor / 1000);
        };
    }

    int perform(int tray) {
        if (noTray(tray)) {
            return -2;
        }
        if (trays[tray] == null) {
            return -6;
        }
        State was = state;
        int n = 0;
        for (long v : trays[tray]) {
            State t = done(state, v);
            if (t == null) {
                break;
            }
            state = t;
            n++;
        }
        if (n > 0) {
            did(was);
        }
        return n;
    }

    int seed;

    int draw() {
        seed = 1103515245 * seed + 12345;
        return seed >>> 16;
    }

    int week(int seed, int times) {
        if (times < 1 || times > 40) {
            return -3;
        }
        this.seed = seed;
        State was = state;
        int n = 0;
        for (int k = 0; k < times; k++) {
            long v = 0;
            switch (draw() % 4) {
                case 0 -> v = 10 + draw() % 10;
                case 3 -> {
                    v = 10000 + 2000L * (draw() % 10);
                    v += draw() % 1999;
                }
                default -> {
                    v = 1000 + 1000L * (draw() % 8);
                    v += draw() % 199;
                }
            }
            State t = done(state, v);
            if (t != null) {
                state = t;
                n++;
            }
        }
        if (n > 0) {
            did(was);
        }
        return n;
    }

    int pillars() {
        return curve().size();
    }

    int pillar(int k, int what) {
        List<Pillar> ps = curve();
        if (k < 0 || k >= ps.size() || what < 0 || what > 2) {
            return -2;
        }
        Pillar p = ps.get(k);
        return what == 0 ? p.day : what == 1 ? (int) p.factor : p.input;
    }

    int factor(int d) {
        return noDay(d) ? -3 : (int) factorAt(curve(), d);
    }

    int forward(int a, int b) {
        if (a < 0 || a > 9998 || b <= a || b > 9999) {
            return -3;
        }
        List<Pillar> ps = curve();
        long fa = factorAt(ps, a);
        long fb = factorAt(ps, b);
        return Math.toIntExact(Math.floorDiv(Math.multiplyExact(fa - fb, BASE), fb * (b - a)));
    }

    int implied(int i) {
        if (noInput(i)) {
            return -2;
        }
        if (desk.inputs.get(i).kind != 2) {
            return startOff(i) >= endOff(i) ? -5 : forward(startOff(i), endOff(i));
        }
        List<Pillar> ps = curve();
        long below = 0;
        int from = 0;
        for (int to : periodEnds(i)) {
            below += (to - from) * factorAt(ps, to);
            from = to;
        }
        return Math.toIntExact(Math.floorDiv((UNIT - factorAt(ps, endOff(i))) * BASE, below));
    }

    int sound() {
        List<Pillar> ps = curve();
        for (int k = 1; k < ps.size(); k++) {
            if (ps.get(k).factor > ps.get(k - 1).factor) {
                return 0;
            }
        }
        return 1;
    }

    int falls(int i, int d) {
        return noInput(i) ? -2 : noDay(d) ? -3 : (int) (factorAt(curve(), d) - factorAt(curveWith(i, 1), d));
    }

    int moves(int i) {
        if (noInput(i)) {
            return -2;
        }
        List<Pillar> a = curve();
        List<Pillar> b = curveWith(i, 1);
        int bits = 0;
        for (int k = 0; k < a.size(); k++) {
            bits |= a.get(k).factor != b.get(k).factor ? 1 << k : 0;
        }
        return bits;
    }

    long worth() {
        return worthOf(curve());
    }

    long move(int i) {
        return noInput(i) ? FAR - 2 : worthOf(curveWith(i, 1)) - worth();
    }

    long bumped(int i, int n) {
        return noInput(i) ? FAR - 2 : n < -999 || n > 999 ? FAR - 3 : worthOf(curveWith(i, n));
    }

    int mover() {
        int best = -1;
        for (int i = 0; i < desk.inputs.size(); i++) {
            if (best < 0 || Math.abs(move(i)) > Math.abs(move(best))) {
                best = i;
            }
        }
        return best;
    }

    int breaks(int i) {
        if (noInput(i)) {
            return -2;
        }
        long w = worth();
        for (int n = 0; n <= 999 && w != 0; n++) {
            if (Long.signum(worthOf(curveWith(i, n))) != Long.signum(w)) {
                return n;
            }
        }
        return -1;
    }

    long weight(List<Pillar> ps, int k, int day) {
        Pillar p = ps.get(k);
        if (day == p.day || day > p.day && k == ps.size() - 1) {
            return 1000;
        }
        for (int j = 0; j + 1 < ps.size(); j++) {
            int a = ps.get(j).day;
            int b = ps.get(j + 1).day;
            if (day > a && day < b) {
                long later = desk.curve == 1 ? 0 : (day - a) * 1000L / (b - a);
                return k == j ? 1000 - later : k == j + 1 ? later : 0;
            }
        }
        return 0;
    }

    long hangOf(List<Pillar> ps, Map<Integer, Long> amounts, int k) {
        long sum = 0;
        for (Map.Entry<Integer, Long> e : amounts.entrySet()) {
            sum = Math.addExact(sum, Math.multiplyExact(e.getValue(), weight(ps, k, e.getKey())));
        }
        return sum;
    }

    Map<Integer, Long> book() {
        Map<Integer, Long> all = new HashMap<>();
        for (int k = 0; k < desk.flowDays.size(); k++) {
            all.merge(desk.flowDays.get(k), (long) state.amounts[k], Long::sum);
        }
        return all;
    }

    Map<Integer, Long> piece(int i) {
        Map<Integer, Long> all = new HashMap<>();
        long rate = counts(state)[i];
        Input in = desk.inputs.get(i);
        all.put(endOff(i), BASE);
        if (in.kind == 2) {
            int from = 0;
            for (int to : periodEnds(i)) {
                all.merge(to, rate * (to - from), Long::sum);
                from = to;
            }
        } else {
            all.merge(endOff(i), rate * (endOff(i) - startOff(i)), Long::sum);
        }
        if (in.kind == 1) {
            all.merge(startOff(i), -BASE, Long::sum);
        }
        return all;
    }

    long hang(int k) {
        List<Pillar> ps = curve();
        return k < 0 || k >= ps.size() ? FAR - 2 : hangOf(ps, book(), k);
    }

    /** FLAT at 0, LEFT at 1, by pillars. */
    long[][] flatLeft() {
        List<Pillar> ps = curve();
        long[][] out = new long[2][ps.size()];
        for (int k = ps.size() - 1; k >= 1; k--) {
            long q = Math.multiplyExact(hangOf(ps, book(), k), BASE * 1000);
            for (int later = k + 1; later < ps.size(); later++) {
                q = Math.addExact(q, Math.multiplyExact(out[0][later], hangOf(ps, piece(ps.get(later).input), k)));
            }
            long x = hangOf(ps, piece(ps.get(k).input), k);
            out[0][k] = -Math.floorDiv(Math.addExact(Math.multiplyExact(2, q), x), 2 * x);
        }
        for (int k = 1; k < ps.size(); k++) {
            out[1][k] = Math.multiplyExact(hangOf(ps, book(), k), BASE * 1000);
            for (int any = 1; any < ps.size(); any++) {
                out[1][k] = Math.addExact(out[1][k], Math.multiplyExact(out[0][any], hangOf(ps, piece(ps.get(any).input), k)));
            }
        }
        return out;
    }

    long flat(int k) {
        return k < 1 || k >= curve().size() ? FAR - 2 : flatLeft()[0][k];
    }

    long left(int k) {
        return k < 1 || k >= curve().size() ? FAR - 2 : flatLeft()[1][k];
    }

    int shifts(int tray) {
        if (noTray(tray)) {
            return -2;
        }
        if (trays[tray] == null) {
            return -6;
        }
        if (trays[tray].length < 1 || trays[tray].length > 8) {
            return -4;
        }
        if (Arrays.stream(trays[tray]).anyMatch(v -> v < 0 || v > 999_999_999_999L)) {
            return -3;
        }
        int bits = 0;
        for (int s = 0; s < 10; s++) {
            List<Pillar> ps = solve(counts(state.withShift(s)));
            boolean all = Arrays.stream(trays[tray])
                    .allMatch(v -> factorAt(ps, (int) (v / 100_000_000)) / 100 == v % 100_000_000);
            bits |= all ? 1 << s : 0;
        }
        return bits;
    }

    int ask(int tray) {
        int bits = shifts(tray);
        if (bits <= 0) {
            return bits == 0 ? -1 : bits;
        }
        int best = -1;
        int least = 99;
        for (Pillar p : curve()) {
            Map<Long, Integer> groups = new HashMap<>();
            for (int s = 0; s < 10; s++) {
                if ((bits >> s & 1) == 1) {
                    groups.merge(factorAt(solve(counts(state.withShift(s))), p.day) / 100, 1, Integer::sum);
                }
            }
            int most = groups.values().stream().max(Integer::compare).get();
            if (most < least) {
                least = most;
                best = p.day;
            }
        }
        return best;
    }

    /** The worth behind each of the ten to the n rows of lots. */
    long[] worths(int b, int n) {
        int all = n == 0 ? 1 : n == 1 ? 10 : n == 2 ? 100 : 1000;
        long[] out = new long[all];
        Map<String, Long> seen = new HashMap<>();
        for (int w = 0; w < all; w++) {
            int[] counted = counts(state);
            int rest = w;
            for (int k = 0; k < n; k++) {
                if (rest % 10 < counted.length) {
                    counted[rest % 10] += b;
                }
                rest /= 10;
            }
            for (int i = 0; i < counted.length; i++) {
                counted[i] = Math.max(0, Math.min(999, counted[i]));
            }
            out[w] = seen.computeIfAbsent(Arrays.toString(counted), key -> worthOf(solve(counted)));
        }
        return out;
    }

    static long lowest(long above, long below, int what) {
        long g = java.math.BigInteger.valueOf(above).gcd(java.math.BigInteger.valueOf(below)).longValue();
        return what == 0 ? above / g : below / g;
    }

    int chance(int b, long k, int n, int what) {
        if (what < 0 || what > 1) {
            return -2;
        }
        if (b < -99 || b > 99 || k < -1_000_000 || k > 1_000_000 || n < 0 || n > 3) {
            return -3;
        }
        long[] all = worths(b, n);
        return (int) lowest(Arrays.stream(all).filter(w -> w < UNIT * k).count(), all.length, what);
    }

    long mean(int b, int n, int what) {
        if (what < 0 || what > 1) {
            return FAR - 2;
        }
        if (b < -99 || b > 99 || n < 0 || n > 3) {
            return FAR - 3;
        }
        long[] all = worths(b, n);
        return lowest(Arrays.stream(all).sum(), all.length, what);
    }

    int numbers(int tray, int sort, int n) {
        if (noTray(tray) || sort < 0 || sort > 3) {
            return -2;
        }
        if (n < 0 || n > 40) {
            return -3;
        }
        trays[tray] = new long[n];
        sorts[tray] = sort;
        return 0;
    }

    static long cut(int sort, long v) {
        int bits = 64 - (8 << sort);
        return v << bits >> bits;
    }

    long write(int tray, int i, long v) {
        if (noTray(tray)) {
            return -2;
        }
        if (trays[tray] == null) {
            return -6;
        }
        if (i < 0 || i >= trays[tray].length) {
            return -7;
        }
        return trays[tray][i] = cut(sorts[tray], v);
    }

    int lists(int tray) {
        if (noTray(tray)) {
            return -2;
        }
        if (trays[tray] == null) {
            return -6;
        }
        List<Pillar> ps = curve();
        int n = Math.min(ps.size(), trays[tray].length);
        for (int k = 0; k < n; k++) {
            trays[tray][k] = cut(sorts[tray], ps.get(k).factor);
        }
        return n;
    }

    int image(int i) {
        if (i < 0 || i > 1) {
            return -2;
        }
        imageDesk[i] = desk;
        imageState[i] = state.copy();
        return 0;
    }

    int restore(int i) {
        if (i < 0 || i > 1) {
            return -2;
        }
        if (imageDesk[i] == null) {
            return -5;
        }
        desk = imageDesk[i];
        state = imageState[i].copy();
        undos.clear();
        return 0;
    }

    int count(int what) {
        return switch (what) {
            case 0 -> desk.inputs.size();
            case 1 -> desk.flowDays.size();
            case 2 -> desk.holidays.size();
            case 3 -> desk.first;
            case 4 -> desk.curve;
            case 5 -> state.shift;
            case 6 -> Arrays.stream(state.rates, 0, desk.inputs.size()).sum();
            case 7 -> undos.size();
            case 8 -> tape.size();
            case 9 -> desk.lines;
            default -> -1;
        };
    }
}
