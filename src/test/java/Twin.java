import java.util.ArrayList;
import java.util.List;
import java.util.function.Supplier;
import java.util.function.ToLongFunction;

/**
 * Judges what a call leaves behind: of two objects made alike one is given the call, and then both are asked all that
 * an object tells, and made to do all that it can.
 */
final class Twin {
    /** What stands on the tape of full(): a text that is read, so that a change of its bytes shows. */
    private static final String WAITING = "desk first 3 curve 1 shift 8;holiday 77;deposit 44 rate 55;";

    private Twin() {
    }

    /**
     * An object with something of everything: inputs of all kinds, an unmet one too, laws, deeds done, an image, a
     * fault read, trays (deeds; what is told; none; forty numbers of 8 bits) and bytes on the tape.
     */
    static PillarDesk full() {
        PillarDesk x = Kit.told("desk first 2 curve 0 shift 3;holiday 40;deposit 91 rate 400;flow 10 minus 7;");
        x.shift(6);
        Kit.due("image", x.image(0), 0);
        Kit.due("desk", Kit.tell(x, "desk first 0 curve 0 shift 1;holiday 9;deposit 91 rate 400;deposit 90 rate 7;forward 140 182 rate 300;"
                + "swap 364 every 91 rate 500;flow 30 plus 7;flow 200 minus 5;rates : told + shift * 2;opens : week < 5 and holiday = 0;"), 10);
        x.bump(0, 5);
        x.shift(2);
        x.amount(1, 88);
        Kit.due("a fault", Kit.tell(x, "desk first 7 curve"), -33);
        Kit.tray(x, 0, 13, 1109, 11000, 1300, 10);
        Kit.tray(x, 1, 10_000_000L);
        x.numbers(3, 0, 40);
        for (int k = 0; k < 40; k++) {
            x.write(3, k, 10 + k % 10);
        }
        Kit.feed(x, WAITING);
        return x;
    }

    /** A refused call: its code, and all as if it had not been. */
    static void refused(String call, long code, ToLongFunction<PillarDesk> given) {
        refused(call, code, Twin::full, given);
    }

    static void refused(String call, long code, Supplier<PillarDesk> made, ToLongFunction<PillarDesk> given) {
        unchanged(call, code, made, given);
    }

    static void unchanged(String call, long answer, Supplier<PillarDesk> made, ToLongFunction<PillarDesk> given) {
        PillarDesk x = made.get();
        Kit.due(call, given.applyAsLong(x), answer);
        alike(call, x, made.get());
    }

    static void alike(String call, PillarDesk x, PillarDesk y) {
        List<Long> got = tapeAndAll(x);
        List<Long> want = tapeAndAll(y);
        compare(call, got, want);
    }

    /** As alike(), but for the tape and the latest fault, which a desk() that finds a fault changes too. */
    static void alikeButTape(String call, PillarDesk x, PillarDesk y) {
        compare(call, all(x), all(y));
    }

    private static void compare(String call, List<Long> got, List<Long> want) {
        int first = 0;
        while (first < Math.min(got.size(), want.size()) && got.get(first).equals(want.get(first))) {
            first++;
        }
        boolean alike = first == got.size() && first == want.size();
        Kit.due(call + ": all is as it was (from answer " + first + " on it isn't)", alike ? 1 : 0, 1);
    }

    private static List<Long> tapeAndAll(PillarDesk x) {
        List<Long> a = new ArrayList<>();
        a.add((long) x.fault(0));
        a.add((long) x.fault(1));
        a.add((long) x.count(8));
        a.addAll(all(x));
        a.add((long) x.desk(x.count(8)));
        a.add((long) x.fault(0));
        a.add((long) x.fault(1));
        told(x, a);
        return a;
    }

    private static List<Long> all(PillarDesk x) {
        List<Long> a = new ArrayList<>();
        told(x, a);
        curve(x, a);
        for (int t = 0; t < 4; t++) {
            for (int what = 0; what < 4; what++) {
                a.add((long) x.judge(t, what));
            }
            a.add((long) x.shifts(t));
            a.add((long) x.ask(t));
        }
        done(x, a);
        for (int i = 1; i >= 0; i--) {
            a.add((long) x.restore(i));
            told(x, a);
        }
        return a;
    }

    private static void told(PillarDesk x, List<Long> a) {
        for (int what = 0; what < 10; what++) {
            a.add(what == 8 ? 0L : x.count(what));
        }
        for (int i = 0; i < x.count(0); i++) {
            for (int what = 0; what < 9; what++) {
                a.add((long) x.input(i, what));
            }
            a.add((long) x.period(i, 0));
        }
        for (int k = 0; k < x.count(1); k++) {
            a.add(x.flow(k, 0));
            a.add(x.flow(k, 1));
        }
        a.add((long) x.opens(0, 50));
        a.add(x.worth());
    }

    private static void curve(PillarDesk x, List<Long> a) {
        for (int k = 0; k < x.pillars(); k++) {
            for (int what = 0; what < 3; what++) {
                a.add((long) x.pillar(k, what));
            }
            a.add(x.hang(k));
            a.add(x.left(k));
        }
        a.add((long) x.factor(100));
        a.add((long) x.mover());
        a.add(x.mean(5, 1, 0));
    }

    /** What the trays, and the calls that can be undone, hold. */
    private static void done(PillarDesk x, List<Long> a) {
        a.add((long) x.perform(0));
        a.add(x.worth());
        a.add((long) x.perform(3));
        a.add((long) x.count(5));
        for (int k = 0; k < 11; k++) {
            a.add((long) x.undo(1));
            a.add((long) x.count(5));
            a.add((long) x.count(6));
            a.add(x.worth());
        }
        for (int t = 0; t < 4; t++) {
            a.add(x.write(t, 0, 1L << 40 | 300));
            a.add(x.write(t, 39, -5));
            a.add((long) x.lists(t));
        }
    }
}
