import java.math.BigInteger;
import java.util.ArrayDeque;
import java.util.ArrayList;
import java.util.Arrays;
import java.util.Deque;
import java.util.List;
import java.util.Random;
import java.util.regex.Matcher;
import java.util.regex.Pattern;

/** Long runs of random calls, on two objects in turns, each answer set against a second, slow and plain reading. */
public final class PlainModelRuns {
    private static final int UNKNOWN = -1, OUTSIDE = -2, STATE = -3, FULL = -4, NONE = -9;
    private static final int PAIRS = 300, CALLS = 400;

    private static int wrong = 0;

    public static void main(String[] args) {
        Random dice = new Random(20261119);
        for (int pair = 0; pair < PAIRS && wrong < 20; pair++) {
            inTurns(new Run(2 * pair), new Run(2 * pair + 1), new Random(dice.nextLong()));
        }
        System.out.println(wrong == 0 ? "all answers are as due" : wrong + " answers are not as due");
        if (wrong != 0) {
            System.exit(1);
        }
    }

    /** An object, what it should be, and the calls that both were told. */
    private static final class Run {
        final int number;
        final OneRing x = new OneRing();
        final Model m = new Model();
        final List<String> told = new ArrayList<>();
        int calls = 0;

        Run(int number) {
            this.number = number;
        }
    }

    private static void inTurns(Run one, Run other, Random dice) {
        while (one.calls < CALLS && other.calls < CALLS) {
            if (step(dice.nextBoolean() ? one : other, dice)) {
                return;
            }
        }
    }

    /** True, if the answers differ. */
    private static boolean step(Run run, Random dice) {
        if (dice.nextInt(90) == 0 || run.calls == 0) {
            return toldAnew(run, letters(dice));
        }
        run.calls++;
        return oneCall(run.number, run.told, dice, run.x, run.m);
    }

    private static boolean toldAnew(Run run, String letters) {
        List<String> told = run.told;
        told.add("text " + letters);
        run.calls += letters.length() + 3;
        boolean differ = differs(run.number, told, "wipe()", run.x.wipe(), run.m.wipe());
        for (char letter : letters.toCharArray()) {
            differ = differ || differs(run.number, told, "write(" + letter + ")", run.x.write(letter), run.m.write(letter));
        }
        return differ || differs(run.number, told, "fault()", run.x.fault(), run.m.fault())
            || differs(run.number, told, "parish()", run.x.parish(), run.m.parish());
    }

    private static boolean differs(int run, List<String> told, String call, long got, long want) {
        told.add(call);
        if (got == want) {
            return false;
        }
        wrong++;
        System.out.println("run " + run + ": " + told + " answered " + got + ", due is " + want);
        return true;
    }

    private static String letters(Random dice) {
        StringBuilder s = new StringBuilder("N");
        int longest = 1 + dice.nextInt(3);
        s.append(dice.nextInt(3) == 0 ? 1 + dice.nextInt(9) : 9).append(dice.nextInt(6));
        for (int r = 0; r < 5; r++) {
            s.append(dice.nextInt(longest + 1));
        }
        int n = dice.nextInt(4) == 0 ? dice.nextInt(7) : 4 + dice.nextInt(3);
        boolean wide = dice.nextBoolean();
        for (int w = 0; w < n; w++) {
            int a = dice.nextInt(wide ? 4 : 10);
            int b = wide && dice.nextInt(3) > 0 ? 9 : a + dice.nextInt(10 - a);
            s.append('W').append(dice.nextInt(6)).append(a).append(b);
            s.append(1 + dice.nextInt(longest)).append(dice.nextInt(4));
        }
        if (dice.nextInt(8) == 0) {
            s.setCharAt(dice.nextInt(s.length()), "NW/:0123456789".charAt(dice.nextInt(14)));
        } else if (dice.nextInt(20) == 0) {
            s.setLength(dice.nextInt(s.length()));
        } else if (dice.nextInt(20) == 0) {
            s.append("W003");
        }
        return s.toString();
    }

    private static int number(Random dice, int least, int last) {
        if (dice.nextInt(25) == 0) {
            int[] odd = {least - 1, last + 1, Integer.MIN_VALUE, Integer.MAX_VALUE, -9, 100, 1000000};
            return odd[dice.nextInt(odd.length)];
        }
        return least + dice.nextInt(last - least + 1);
    }

    private static int row(Random dice, int n, int size) {
        if (dice.nextInt(4) > 0 && n >= 1 && n <= size) {
            List<Integer> all = new ArrayList<>();
            for (int w = 1; w <= size; w++) {
                all.add(w);
            }
            java.util.Collections.shuffle(all, dice);
            int row = 0;
            for (int i = 0; i < n; i++) {
                row = row * 10 + all.get(i);
            }
            return row;
        }
        int row = 0;
        for (int i = 0; i < n && i < 7; i++) {
            row = row * 10 + dice.nextInt(dice.nextInt(4) == 0 ? 10 : 7);
        }
        return dice.nextInt(25) == 0 ? number(dice, -1, 1000001) : row;
    }

    /** True, if the answers differ. */
    private static boolean oneCall(int run, List<String> told, Random dice, OneRing x, Model m) {
        int w = number(dice, 0, Math.max(0, m.size() - 1));
        int v = number(dice, 0, Math.max(0, m.size() - 1));
        int church = number(dice, 0, 5);
        int road = number(dice, 0, 4);
        boolean flag = dice.nextBoolean();
        int n;
        int row;
        int what;
        switch (dice.nextInt(dice.nextInt(4) == 0 ? 29 : 26)) {
            case 0:
                what = number(dice, 0, 6);
                return differs(run, told, "wedding(" + w + ", " + what + ")", x.wedding(w, what), m.wedding(w, what));
            case 1:
                return differs(run, told, "road(" + road + ")", x.road(road), m.road(road));
            case 2:
                what = number(dice, 0, 5);
                return differs(run, told, "way(" + church + ", " + what + ")", x.way(church, what), m.way(church, what));
            case 3:
                return differs(run, told, "wed(" + w + ")", x.wed(w), m.wed(w));
            case 4:
                return dice.nextBoolean()
                    && differs(run, told, "carry(" + church + ")", x.carry(church), m.carry(church));
            case 5:
                return dice.nextBoolean() && differs(run, told, "linger()", x.linger(), m.linger());
            case 6:
                return differs(run, told, "mend(" + road + ")", x.mend(road), m.mend(road));
            case 7:
            case 8:
                return differs(run, told, "undo()", x.undo(), m.undo());
            case 9:
            case 10:
                what = number(dice, 0, 2);
                return differs(run, told, "most(" + what + ")", x.most(what), m.most(what));
            case 11:
                return differs(run, told, "slack()", x.slack(), m.slack());
            case 12:
                return differs(run, told, "mending(" + flag + ")", x.mending(flag), m.mending(flag));
            case 13:
                n = number(dice, 1, 6);
                row = row(dice, n, m.size());
                return differs(run, told, "judge(" + n + ", " + row + ")", x.judge(n, row), m.judge(n, row));
            case 14:
                return differs(run, told, "later(" + w + ")", x.later(w), m.later(w));
            case 15:
                n = number(dice, 0, 6);
                return differs(run, told, "see(" + n + ", " + church + ")", x.see(n, church), m.see(n, church));
            case 16:
                return differs(run, told, "unsee()", x.unsee(), m.unsee());
            case 17:
            case 18:
                n = number(dice, 0, dice.nextInt(3) == 0 ? 6 : 3);
                what = number(dice, 0, 2);
                return differs(run, told, "rows(" + n + ", " + what + ")", x.rows(n, what), m.rows(n, what));
            case 19:
                return differs(run, told, "share(" + w + ", " + flag + ")", x.share(w, flag), m.share(w, flag));
            case 20:
                what = number(dice, 0, 1);
                return differs(run, told, "rests(" + w + ", " + v + ", " + what + ")", x.rests(w, v, what),
                    m.rests(w, v, what));
            case 21:
            case 22:
                n = number(dice, 1, dice.nextInt(3) == 0 ? 6 : 3);
                row = row(dice, n, m.size());
                what = number(dice, 0, 10);
                return differs(run, told, "falls(" + n + ", " + row + ", " + what + ", " + flag + ")",
                    x.falls(n, row, what, flag), m.falls(n, row, what, flag));
            case 23:
                what = number(dice, 1, 30);
                return differs(run, told, "summers(" + what + ")", x.summers(what), m.summers(what));
            case 24:
            case 25:
                what = number(dice, 0, 8);
                return differs(run, told, "count(" + what + ")", x.count(what), m.count(what));
            case 26:
                long seed = dice.nextLong();
                return differs(run, told, "seed(" + seed + ")", x.seed(seed), m.seed(seed));
            case 27:
                what = number(dice, 0, 1);
                return differs(run, told, "keep(" + what + ")", x.keep(what), m.keep(what));
            default:
                what = number(dice, 0, 1);
                return differs(run, told, "again(" + what + ")", x.again(what), m.again(what));
        }
    }

    /** How things stand; never changed once it is made. */
    private static final class State {
        final int hour;
        final int church;
        final List<Integer> wed;
        final List<Integer> roads;

        State(int hour, int church, List<Integer> wed, List<Integer> roads) {
            this.hour = hour;
            this.church = church;
            this.wed = wed;
            this.roads = roads;
        }

        int way(int one, int other) {
            if (one > other) {
                return way(other, one);
            }
            return one == other ? 0 : roads.get(one) + way(one + 1, other);
        }

        State at(int otherHour) {
            return new State(otherHour, church, wed, roads);
        }

        State carried(int to) {
            return new State(hour + way(church, to), to, wed, roads);
        }

        State mended(int road) {
            List<Integer> shorter = new ArrayList<>(roads);
            shorter.set(road, roads.get(road) - 1);
            return new State(hour, church, wed, shorter);
        }
    }

    private static final class Model {
        private static final Pattern PARISH = Pattern.compile(
            "N[1-9][0-5][0-3]{5}(W[0-5](0[0-9]|1[1-9]|2[2-9]|3[3-9]|4[4-9]|5[5-9]|6[6-9]|7[7-9]|8[89]|99)[1-3][0-3]){0,6}");

        String text = "";
        int sunset = 9;
        List<String> weddings = new ArrayList<>();
        State now = new State(0, 0, List.of(), List.of(1, 1, 1, 1, 1));
        Deque<State> acts = new ArrayDeque<>();
        State[] kept = new State[2];
        List<int[]> seen = new ArrayList<>();
        long seed = 0;

        int size() {
            return weddings.size();
        }

        int write(int letter) {
            if (letter < 0 || letter > 255) {
                return OUTSIDE;
            }
            if (text.length() == 48) {
                return FULL;
            }
            text += (char) letter;
            return text.length();
        }

        int wipe() {
            int was = text.length();
            text = "";
            return was;
        }

        int fault() {
            for (int n = 1; n <= text.length(); n++) {
                Matcher one = PARISH.matcher(text.substring(0, n));
                if (!one.matches() && !one.hitEnd()) {
                    return n - 1;
                }
            }
            return PARISH.matcher(text).matches() ? NONE : text.length();
        }

        int parish() {
            if (fault() != NONE) {
                return STATE;
            }
            sunset = text.charAt(1) - '0';
            List<Integer> roads = new ArrayList<>();
            for (char c : text.substring(3, 8).toCharArray()) {
                roads.add(c - '0');
            }
            now = new State(0, text.charAt(2) - '0', List.of(), roads);
            weddings = new ArrayList<>();
            for (String one : text.substring(8).split("W")) {
                if (!one.isEmpty()) {
                    weddings.add(one);
                }
            }
            acts.clear();
            Arrays.fill(kept, null);
            return size();
        }

        boolean there(int wedding) {
            return wedding >= 0 && wedding < size();
        }

        int figure(int wedding, int what) {
            return weddings.get(wedding).charAt(what) - '0';
        }

        int begin(State s, int wedding, int longer) {
            if (!there(wedding) || s.wed.contains(wedding)) {
                return NONE;
            }
            int there = s.hour + s.way(s.church, figure(wedding, 0)) + longer;
            if (figure(wedding, 4) == 2) {
                there++;
            }
            int begin = Math.max(there, figure(wedding, 1));
            return begin > figure(wedding, 2) || end(wedding, begin) > sunset ? NONE : begin;
        }

        int end(int wedding, int begin) {
            int l = figure(wedding, 3);
            if (figure(wedding, 4) == 3 && l > 1) {
                l--;
            }
            return begin + l;
        }

        /** How things stand behind it; null, if it does not hold. */
        State after(State s, int wedding, int longer) {
            int begin = begin(s, wedding, longer);
            if (begin == NONE) {
                return null;
            }
            List<Integer> wed = new ArrayList<>(s.wed);
            wed.add(wedding);
            int free = end(wedding, begin) + (figure(wedding, 4) == 1 ? 1 : 0);
            return new State(free, figure(wedding, 0), wed, s.roads);
        }

        int wedding(int wedding, int what) {
            if (!there(wedding)) {
                return UNKNOWN;
            }
            if (what < 0 || what > 6) {
                return OUTSIDE;
            }
            if (what == 5) {
                return now.wed.contains(wedding) ? 1 : 0;
            }
            return what == 6 ? begin(now, wedding, 0) : figure(wedding, what);
        }

        int road(int road) {
            return road < 0 || road > 4 ? UNKNOWN : now.roads.get(road);
        }

        boolean church(int church) {
            return church >= 0 && church <= 5;
        }

        int way(int church, int other) {
            return church(church) && church(other) ? now.way(church, other) : UNKNOWN;
        }

        void act(State then) {
            acts.addLast(now);
            if (acts.size() > 14) {
                acts.removeFirst();
            }
            now = then;
        }

        int wed(int wedding) {
            if (!there(wedding)) {
                return UNKNOWN;
            }
            State then = after(now, wedding, 0);
            if (then == null) {
                return STATE;
            }
            act(then);
            return now.hour;
        }

        int carry(int church) {
            if (!church(church)) {
                return UNKNOWN;
            }
            if (church == now.church) {
                return STATE;
            }
            act(now.carried(church));
            return now.hour;
        }

        int linger() {
            act(now.at(now.hour + 1));
            return now.hour;
        }

        int mend(int road) {
            if (road < 0 || road > 4) {
                return UNKNOWN;
            }
            if (now.roads.get(road) == 0) {
                return STATE;
            }
            act(now.mended(road));
            return now.roads.get(road);
        }

        int undo() {
            if (acts.isEmpty()) {
                return STATE;
            }
            now = acts.removeLast();
            return acts.size();
        }

        /** Every row of some of these weddings that holds, each a list of how things stood, the first one is s. */
        List<List<State>> holding(State s, List<Integer> some) {
            List<List<State>> all = new ArrayList<>();
            all.add(List.of(s));
            for (int i = 0; i < all.size(); i++) {
                List<State> row = all.get(i);
                for (int w : some) {
                    State then = after(row.get(row.size() - 1), w, 0);
                    if (then != null) {
                        List<State> longer = new ArrayList<>(row);
                        longer.add(then);
                        all.add(longer);
                    }
                }
            }
            return all;
        }

        List<Integer> everyone() {
            List<Integer> all = new ArrayList<>();
            for (int w = 0; w < size(); w++) {
                all.add(w);
            }
            return all;
        }

        State last(List<State> row) {
            return row.get(row.size() - 1);
        }

        int mostOf(State s, List<Integer> some) {
            int most = 0;
            for (List<State> row : holding(s, some)) {
                most = Math.max(most, row.size() - 1);
            }
            return most;
        }

        int most(int what) {
            if (what < 0 || what > 2) {
                return OUTSIDE;
            }
            int most = mostOf(now, everyone());
            int first = Integer.MAX_VALUE;
            int end = Integer.MAX_VALUE;
            for (List<State> row : holding(now, everyone())) {
                if (row.size() - 1 == most) {
                    List<Integer> wed = last(row).wed;
                    int figures = 0;
                    for (int w : wed.subList(now.wed.size(), wed.size())) {
                        figures = figures * 10 + w + 1;
                    }
                    first = Math.min(first, figures);
                    end = Math.min(end, last(row).hour);
                }
            }
            return what == 0 ? most : what == 1 ? first : end;
        }

        int slack() {
            int most = mostOf(now, everyone());
            int slack = 0;
            for (int h = 0; h <= 9; h++) {
                if (mostOf(now.at(now.hour + h), everyone()) == most) {
                    slack = h;
                }
            }
            return slack;
        }

        int mending(boolean many) {
            int best = NONE;
            int which = NONE;
            for (int r = 4; r >= 0; r--) {
                if (now.roads.get(r) > 0) {
                    int then = mostOf(now.mended(r), everyone());
                    if (then >= best) {
                        best = then;
                        which = r;
                    }
                }
            }
            return many ? best : which;
        }

        /** The row's weddings, -1 for a 0; null, if it is not told as n figures. */
        List<Integer> row(int n, int row) {
            if (n < 1 || n > 6 || row < 0 || String.valueOf(row).length() > n) {
                return null;
            }
            List<Integer> all = new ArrayList<>();
            for (char c : String.format("%0" + n + "d", row).toCharArray()) {
                all.add(c - '1');
            }
            return all;
        }

        int judge(int n, int row) {
            List<Integer> all = row(n, row);
            if (all == null) {
                return OUTSIDE;
            }
            State s = now;
            for (int i = 0; i < n; i++) {
                s = after(s, all.get(i), 0);
                if (s == null) {
                    return i;
                }
            }
            return NONE;
        }

        int later(int wedding) {
            if (!there(wedding)) {
                return UNKNOWN;
            }
            if (now.wed.contains(wedding)) {
                return STATE;
            }
            int later = NONE;
            for (int h = 0; h <= 9; h++) {
                if (begin(now.at(h), wedding, 0) != NONE) {
                    later = h;
                }
            }
            return later;
        }

        int see(int n, int church) {
            if (!church(church)) {
                return UNKNOWN;
            }
            if (n < 0 || n > 6) {
                return OUTSIDE;
            }
            if (seen.size() == 6) {
                return FULL;
            }
            seen.add(new int[] {n, church});
            return seen.size();
        }

        int unsee() {
            int was = seen.size();
            seen.clear();
            return was;
        }

        int rows(int n, int what) {
            if (n < 0 || n > 6 || what < 0 || what > 2) {
                return OUTSIDE;
            }
            int rows = 0;
            int[] of = new int[6];
            for (List<State> row : holding(now, everyone())) {
                boolean so = row.size() == n + 1;
                for (int[] one : seen) {
                    so = so && (one[0] > n || row.get(one[0]).church == one[1]);
                }
                if (so) {
                    rows++;
                    List<Integer> wed = last(row).wed;
                    for (int w : wed.subList(now.wed.size(), wed.size())) {
                        of[w]++;
                    }
                }
            }
            if (what == 0) {
                return rows;
            }
            int bits = 0;
            for (int w = 0; w < size(); w++) {
                if (of[w] == (what == 1 ? rows : 0)) {
                    bits += 1 << w;
                }
            }
            return rows == 0 ? NONE : bits;
        }

        int fraction(long above, long below, boolean upper) {
            BigInteger divisor = BigInteger.valueOf(above).gcd(BigInteger.valueOf(below));
            return BigInteger.valueOf(upper ? above : below).divide(divisor).intValueExact();
        }

        void orders(List<Integer> ahead, List<Integer> rest, List<List<Integer>> all) {
            if (rest.isEmpty()) {
                all.add(ahead);
            }
            for (int i = 0; i < rest.size(); i++) {
                List<Integer> longer = new ArrayList<>(ahead);
                longer.add(rest.get(i));
                List<Integer> fewer = new ArrayList<>(rest);
                fewer.remove(i);
                orders(longer, fewer, all);
            }
        }

        int share(int wedding, boolean upper) {
            if (!there(wedding)) {
                return UNKNOWN;
            }
            if (now.wed.contains(wedding)) {
                return upper ? 0 : 1;
            }
            List<Integer> open = everyone();
            open.removeAll(now.wed);
            List<List<Integer>> all = new ArrayList<>();
            orders(List.of(), open, all);
            int[] mosts = new int[64];
            Arrays.fill(mosts, -1);
            long sum = 0;
            for (List<Integer> order : all) {
                int i = order.indexOf(wedding);
                sum += mostOf(order.subList(0, i + 1), mosts) - mostOf(order.subList(0, i), mosts);
            }
            return fraction(sum, all.size(), upper);
        }

        int mostOf(List<Integer> some, int[] mosts) {
            int set = 0;
            for (int w : some) {
                set += 1 << w;
            }
            if (mosts[set] < 0) {
                mosts[set] = mostOf(now, some);
            }
            return mosts[set];
        }

        int rests(int one, int other, int what) {
            if (!there(one) || !there(other)) {
                return UNKNOWN;
            }
            if (one == other || what < 0 || what > 1) {
                return OUTSIDE;
            }
            if (now.wed.contains(one) || now.wed.contains(other)) {
                return STATE;
            }
            List<Integer> at = new ArrayList<>();
            for (int a = 0; a <= 1; a++) {
                for (int b = 0; b <= 1; b++) {
                    int[] has = gains(one, other, a, b);
                    if (gains(one, other, 1 - a, b)[0] <= has[0] && gains(one, other, a, 1 - b)[1] <= has[1]) {
                        at.add(10 * a + b);
                    }
                }
            }
            return what == 0 ? at.size() : at.isEmpty() ? NONE : at.get(0);
        }

        int[] gains(int one, int other, int a, int b) {
            int next = a > b ? one : b > a ? other : Math.min(one, other);
            int then = next == one ? other : one;
            int[] has = {-a, -b};
            State s = now;
            for (int w : new int[] {next, then}) {
                int begin = begin(s, w, 0);
                if (begin != NONE) {
                    has[w == one ? 0 : 1] += Math.max(0, 4 - (begin - now.hour));
                    s = after(s, w, 0);
                }
            }
            return has;
        }

        int falls(int n, int row, int x, boolean upper) {
            List<Integer> all = row(n, row);
            if (all == null || x < 0 || x > 10) {
                return OUTSIDE;
            }
            for (int i = 0; i < n; i++) {
                int w = all.get(i);
                if (!there(w) || now.wed.contains(w) || all.indexOf(w) != i) {
                    return STATE;
                }
            }
            long[] chance = chance(now, all, x);
            return fraction(chance[0], chance[1], upper);
        }

        long[] chance(State s, List<Integer> row, int x) {
            if (s == null) {
                return new long[] {0, 1};
            }
            if (row.isEmpty()) {
                return new long[] {1, 1};
            }
            int w = row.get(0);
            List<Integer> rest = row.subList(1, row.size());
            long[] stands = chance(after(s, w, 0), rest, x);
            if (s.way(s.church, figure(w, 0)) == 0) {
                return stands;
            }
            long[] falls = chance(after(s, w, 1), rest, x);
            long below = Math.max(stands[1], falls[1]);
            long above = stands[0] * (below / stands[1]) * (10 - x) + falls[0] * (below / falls[1]) * x;
            return new long[] {above, 10 * below};
        }

        long seed(long v) {
            long was = seed;
            seed = v;
            return was;
        }

        int summers(int m) {
            if (m < 1 || m > 30) {
                return OUTSIDE;
            }
            BigInteger all = BigInteger.ONE.shiftLeft(64);
            State s = now;
            int many = 0;
            for (int i = 0; i < m; i++) {
                BigInteger x = BigInteger.valueOf(seed).multiply(new BigInteger("6364136223846793005"))
                    .add(new BigInteger("1442695040888963407")).mod(all);
                seed = x.longValue();
                int event = x.shiftRight(33).mod(BigInteger.valueOf(8)).intValue();
                if (event == 7) {
                    s = new State(0, s.church, List.of(), s.roads);
                } else if (event == 6) {
                    s = s.at(s.hour + 1);
                } else if (after(s, event, 0) != null) {
                    s = after(s, event, 0);
                    many++;
                }
            }
            return many;
        }

        int keep(int slot) {
            if (slot != 0 && slot != 1) {
                return UNKNOWN;
            }
            kept[slot] = now;
            return now.hour;
        }

        int again(int slot) {
            if (slot != 0 && slot != 1) {
                return UNKNOWN;
            }
            if (kept[slot] == null) {
                return STATE;
            }
            now = kept[slot];
            acts.clear();
            return now.hour;
        }

        int count(int what) {
            int wed = 0;
            int next = 0;
            for (int w = 0; w < size(); w++) {
                wed += now.wed.contains(w) ? 1 << w : 0;
                next += begin(now, w, 0) != NONE ? 1 << w : 0;
            }
            int[] all = {text.length(), size(), sunset, now.hour, now.church, wed, next, acts.size(), seen.size()};
            return what < 0 || what >= all.length ? OUTSIDE : all[what];
        }
    }
}
