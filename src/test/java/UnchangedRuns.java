import java.util.ArrayList;
import java.util.List;
import java.util.function.Consumer;
import java.util.function.ToLongFunction;

/**
 * What is refused changes nothing, nor does what is only asked: of two objects with like calls behind them one is asked
 * once more; then all that can be read of both must be the same, the letters, ACTS and SLOTS, too.
 */
public final class UnchangedRuns {
    private static final int STATE = -3, FULL = -4, NONE = -9;
    private static final int MIN = Integer.MIN_VALUE, MAX = Integer.MAX_VALUE;
    private static final int[] SMALL = {MIN, -1, 0, 1, 2, 3, 5, 6, 7, MAX};
    private static final int[] ROWS = {MIN, -1, 0, 1, 2, 6, 9, 10, 12, 21, 65, 99, 100, 123456, 999999, 1000000, MAX};

    private static int wrong = 0;
    private static int refused = 0;
    private static int asked = 0;

    /** A call, by its name; asking: whatever it answers, nothing may be changed, but for THE SEED by summers. */
    private record Call(String name, boolean asking, ToLongFunction<OneRing> on) { }

    private record Past(String name, Consumer<OneRing> calls) { }

    public static void main(String[] args) {
        List<Call> calls = new ArrayList<>();
        actsOf(calls);
        queriesOf(calls);
        rowQueriesOf(calls);
        for (Past past : pasts()) {
            for (Call call : calls) {
                once(past, call);
            }
        }
        if (refused < 1000 || asked < 1000) {
            wrong++;
            System.out.println("only " + refused + " refused and " + asked + " asked: the runs are too few");
        }
        System.out.println(wrong == 0 ? "all answers are as due" : wrong + " answers are not as due");
        if (wrong != 0) {
            System.exit(1);
        }
    }

    private static void once(Past past, Call call) {
        OneRing x = new OneRing();
        OneRing y = new OneRing();
        past.calls().accept(x);
        past.calls().accept(y);
        long answer = call.on().applyAsLong(x);
        boolean isRefused = answer < 0 && answer >= FULL;
        if (!isRefused && !call.asking()) {
            return;
        }
        refused += isRefused ? 1 : 0;
        asked += isRefused ? 0 : 1;
        if (!isRefused && call.name().startsWith("summers")) {
            x.seed(0);
            y.seed(0);
        }
        String is = all(x);
        String was = all(y);
        if (!is.equals(was)) {
            wrong++;
            System.out.println(past.name() + ": " + call.name() + " answered " + answer + ", then is " + is + ", was " + was);
        }
    }

    // ---- how things stand ahead of the call

    private static void type(OneRing x, String letters) {
        x.wipe();
        for (int i = 0; i < letters.length(); i++) {
            x.write(letters.charAt(i));
        }
    }

    private static void linger(OneRing x, int hours) {
        for (int i = 0; i < hours; i++) {
            x.linger();
        }
    }

    private static List<Past> pasts() {
        String apart = "N9011111W00910W10911W20912W30913W40920W50931";
        return List.of(
            new Past("a new object", x -> { }),
            new Past("no weddings", x -> {
                type(x, "N1500000");
                x.parish();
            }),
            new Past("one wedding", x -> {
                type(x, "N9212301W20410");
                x.parish();
                x.seed(-1);
            }),
            new Past("six weddings", x -> {
                type(x, apart);
                x.parish();
                x.see(1, 1);
                x.keep(0);
            }),
            new Past("all is full", x -> {
                type(x, "N9303333W30910W31910W32910W33910W34910W35910");
                x.parish();
                linger(x, 1);
                x.keep(1);
                for (int i = 0; i < 6; i++) {
                    x.see(i, 3);
                }
                x.mend(1);
                x.carry(2);
                x.carry(3);
                x.wed(2);
                for (int i = 0; i < 11; i++) {
                    x.carry(i % 2 == 0 ? 4 : 3);
                    x.mend(4);
                    x.mend(1);
                }
                x.seed(Long.MIN_VALUE);
                type(x, "x".repeat(48));
            }),
            new Past("all are wed", x -> {
                type(x, "N9000000W00910W00910W00910W00910W00910W00910");
                x.parish();
                for (int w = 5; w >= 0; w--) {
                    x.wed(w);
                }
                x.keep(0);
                x.keep(1);
            }),
            new Past("past sunset", x -> {
                type(x, apart);
                x.parish();
                x.wed(0);
                linger(x, 20);
                type(x, "N901111");
            }),
            new Past("all roads are mended", x -> {
                type(x, "N9011111W40111W00112");
                x.parish();
                for (int r = 0; r <= 4; r++) {
                    x.mend(r);
                }
                x.again(1);
                x.keep(1);
                x.undo();
                x.mend(4);
            }));
    }

    // ---- the calls

    private static void actsOf(List<Call> calls) {
        for (int letter : new int[] {MIN, -1, 0, 255, 256, 256 + 'N', MAX}) {
            calls.add(new Call("write(" + letter + ")", false, x -> x.write(letter)));
        }
        calls.add(new Call("parish()", false, x -> x.parish()));
        calls.add(new Call("undo()", false, x -> x.undo()));
        for (int a : new int[] {MIN, -1, 0, 1, 2, 3, 4, 5, 6, 7, MAX}) {
            calls.add(new Call("wed(" + a + ")", false, x -> x.wed(a)));
            calls.add(new Call("carry(" + a + ")", false, x -> x.carry(a)));
            calls.add(new Call("mend(" + a + ")", false, x -> x.mend(a)));
            calls.add(new Call("keep(" + a + ")", false, x -> x.keep(a)));
            calls.add(new Call("again(" + a + ")", false, x -> x.again(a)));
            for (int b : SMALL) {
                calls.add(new Call("see(" + a + ", " + b + ")", false, x -> x.see(a, b)));
            }
        }
    }

    private static void queriesOf(List<Call> calls) {
        calls.add(new Call("fault()", true, x -> x.fault()));
        calls.add(new Call("slack()", true, x -> x.slack()));
        calls.add(new Call("mending(true)", true, x -> x.mending(true)));
        calls.add(new Call("mending(false)", true, x -> x.mending(false)));
        for (int what = -1; what <= 9; what++) {
            int a = what;
            calls.add(new Call("count(" + a + ")", true, x -> x.count(a)));
            calls.add(new Call("most(" + a + ")", true, x -> x.most(a)));
        }
        for (int a : SMALL) {
            calls.add(new Call("road(" + a + ")", true, x -> x.road(a)));
            calls.add(new Call("later(" + a + ")", true, x -> x.later(a)));
            calls.add(new Call("share(" + a + ", true)", true, x -> x.share(a, true)));
            calls.add(new Call("share(" + a + ", false)", true, x -> x.share(a, false)));
            for (int b : SMALL) {
                calls.add(new Call("wedding(" + a + ", " + b + ")", true, x -> x.wedding(a, b)));
                calls.add(new Call("way(" + a + ", " + b + ")", true, x -> x.way(a, b)));
                calls.add(new Call("rows(" + a + ", " + b + ")", true, x -> x.rows(a, b)));
                for (int what : new int[] {-1, 0, 1, 2}) {
                    calls.add(new Call("rests(" + a + ", " + b + ", " + what + ")", true, x -> x.rests(a, b, what)));
                }
            }
        }
        for (int m : new int[] {MIN, -1, 0, 1, 2, 5, 30, 31, MAX}) {
            calls.add(new Call("summers(" + m + ")", true, x -> x.summers(m)));
        }
    }

    private static void rowQueriesOf(List<Call> calls) {
        for (int n : SMALL) {
            for (int row : ROWS) {
                calls.add(new Call("judge(" + n + ", " + row + ")", true, x -> x.judge(n, row)));
                for (int tenths : new int[] {-1, 0, 5, 10, 11}) {
                    calls.add(new Call("falls(" + n + ", " + row + ", " + tenths + ", true)", true,
                        x -> x.falls(n, row, tenths, true)));
                }
                calls.add(new Call("falls(" + n + ", " + row + ", 5, false)", true, x -> x.falls(n, row, 5, false)));
            }
        }
    }

    // ---- all that can be read of an object; it is used up by that

    private static void stand(OneRing x, StringBuilder all) {
        for (int what = 0; what <= 8; what++) {
            all.append(x.count(what)).append(',');
        }
        for (int r = 0; r <= 4; r++) {
            all.append(x.road(r));
        }
        all.append(';');
    }

    private static void parish(OneRing x, StringBuilder all) {
        for (int w = 0; w <= 5; w++) {
            for (int what = 0; what <= 6; what++) {
                all.append(x.wedding(w, what)).append(',');
            }
        }
        all.append(x.count(2)).append(';');
    }

    private static String all(OneRing x) {
        StringBuilder all = new StringBuilder();
        stand(x, all);
        parish(x, all);
        for (int n = 0; n <= 6; n++) {
            all.append(x.rows(n, 0)).append(',');
        }
        all.append("seed ").append(x.seed(0)).append(", acts ");
        for (int left = NONE; left != STATE; ) {
            left = x.undo();
            stand(x, all);
        }
        for (int slot = 0; slot <= 1; slot++) {
            all.append("slot ").append(x.again(slot)).append(' ');
            stand(x, all);
        }
        all.append("text ").append(x.fault()).append(',').append(x.parish()).append(' ');
        stand(x, all);
        parish(x, all);
        return all.append(x.unsee()).append(x.wipe()).toString();
    }
}
