/** A parish with one ring for up to six weddings; ../shared/DOC.md tells what each call answers. */
public final class OneRing {
    public static final int UNKNOWN = -1, OUTSIDE = -2, STATE = -3, FULL = -4, NONE = -9;

    private static final int LETTERS = 48, HEAD = 8, TOLD = 5;
    private static final int CHURCHES = 6, ROADS = 5, WEDDINGS = 6, SETS = 64;
    private static final int ACTS = 14, SIGHTS = 6, SLOTS = 2, LAST_HOUR = 9;
    private static final int CHURCH = 0, OPENS = 1, CLOSES = 2, LENGTH = 3, KIND = 4;
    private static final int THICK = 1, LATE = 2, HASTY = 3;
    private static final int[] TENS = {1, 10, 100, 1000, 10000, 100000, 1000000};
    private static final int[] FACTORIALS = {1, 1, 2, 6, 24, 120, 720};

    private final Text text = new Text();
    private final Parish told = new Parish();
    private final Stand now = new Stand();
    private final Stand trial = new Stand();
    private final Acts acts = new Acts();
    private final Search search = new Search();
    private final Stand[] kept = new Stand[SLOTS];
    private final boolean[] wasKept = new boolean[SLOTS];
    private final int[] seenBehind = new int[SIGHTS];
    private final int[] seenChurch = new int[SIGHTS];
    private final int[] mostOf = new int[SETS];
    private int seen = 0;
    private long theSeed = 0;

    public OneRing() {
        for (int i = 0; i < kept.length; i++) {
            kept[i] = new Stand();
        }
    }

    // ---- the parish

    public int write(int letter) {
        if (letter < 0 || letter > 255) {
            return OUTSIDE;
        }
        return text.add(letter) ? text.length : FULL;
    }

    public int wipe() {
        int before = text.length;
        text.length = 0;
        return before;
    }

    public int fault() {
        return text.firstFault();
    }

    public int parish() {
        if (text.firstFault() != NONE) {
            return STATE;
        }
        told.readFrom(text);
        now.readFrom(text);
        acts.clear();
        for (int i = 0; i < wasKept.length; i++) {
            wasKept[i] = false;
        }
        return told.size;
    }

    public int wedding(int wedding, int what) {
        if (!told.has(wedding)) {
            return UNKNOWN;
        }
        if (what < 0 || what > 6) {
            return OUTSIDE;
        }
        if (what < TOLD) {
            return told.figure(wedding, what);
        }
        if (what == 5) {
            return now.isWed(wedding) ? 1 : 0;
        }
        return told.beginOn(now, wedding);
    }

    public int road(int road) {
        return isRoad(road) ? at(now.roads, road) : UNKNOWN;
    }

    public int way(int church, int other) {
        if (!isChurch(church) || !isChurch(other)) {
            return UNKNOWN;
        }
        return now.hoursBetween(church, other);
    }

    // ---- acts

    public int wed(int wedding) {
        if (!told.has(wedding)) {
            return UNKNOWN;
        }
        if (told.beginOn(now, wedding) == NONE) {
            return STATE;
        }
        acts.remember(now);
        told.celebrate(now, wedding);
        return now.hour;
    }

    public int carry(int church) {
        if (!isChurch(church)) {
            return UNKNOWN;
        }
        if (church == now.church) {
            return STATE;
        }
        acts.remember(now);
        now.hour += now.hoursBetween(now.church, church);
        now.church = church;
        return now.hour;
    }

    public int linger() {
        acts.remember(now);
        now.hour++;
        return now.hour;
    }

    public int mend(int road) {
        if (!isRoad(road)) {
            return UNKNOWN;
        }
        if (at(now.roads, road) <= 0) {
            return STATE;
        }
        acts.remember(now);
        now.shorten(road);
        return at(now.roads, road);
    }

    public int undo() {
        return acts.takeBack(now) ? acts.size : STATE;
    }

    // ---- rows

    public int most(int what) {
        if (what < 0 || what > 2) {
            return OUTSIDE;
        }
        search.runFrom(told, now);
        if (what == 0) {
            return search.longest;
        }
        return what == 1 ? search.first : search.end;
    }

    public int slack() {
        int asNow = mostFrom(now);
        trial.take(now);
        for (int waited = 0; waited < LAST_HOUR; waited++) {
            trial.hour++;
            // more waiting never brings back what an hour has lost
            if (mostFrom(trial) != asNow) {
                return waited;
            }
        }
        return LAST_HOUR;
    }

    public int mending(boolean many) {
        int best = NONE;
        int which = NONE;
        for (int r = 0; r < ROADS; r++) {
            if (at(now.roads, r) > 0) {
                trial.take(now);
                trial.shorten(r);
                int mended = mostFrom(trial);
                if (mended > best) {
                    best = mended;
                    which = r;
                }
            }
        }
        return many ? best : which;
    }

    public int judge(int n, int row) {
        if (!isRow(n, row)) {
            return OUTSIDE;
        }
        trial.take(now);
        for (int place = 0; place < n; place++) {
            if (!told.celebrate(trial, weddingInRow(n, row, place))) {
                return place;
            }
        }
        return NONE;
    }

    public int later(int wedding) {
        if (!told.has(wedding)) {
            return UNKNOWN;
        }
        if (now.isWed(wedding)) {
            return STATE;
        }
        int way = now.hoursBetween(now.church, told.figure(wedding, CHURCH));
        for (int h = LAST_HOUR; h >= 0; h--) {
            if (told.begin(wedding, h, way) != NONE) {
                return h;
            }
        }
        return NONE;
    }

    // ---- seen

    public int see(int n, int church) {
        if (!isChurch(church)) {
            return UNKNOWN;
        }
        if (n < 0 || n > WEDDINGS) {
            return OUTSIDE;
        }
        if (seen < 0 || seen >= seenBehind.length || seen >= seenChurch.length) {
            return FULL;
        }
        seenBehind[seen] = n;
        seenChurch[seen] = church;
        seen++;
        return seen;
    }

    public int unsee() {
        int before = seen;
        seen = 0;
        return before;
    }

    public int rows(int n, int what) {
        if (n < 0 || n > WEDDINGS || what < 0 || what > 2) {
            return OUTSIDE;
        }
        search.reset(now, n);
        for (int i = 0; i < seen; i++) {
            search.allowOnly(at(seenBehind, i), at(seenChurch, i));
        }
        search.run(told);
        if (what == 0) {
            return search.found;
        }
        if (search.found == 0) {
            return NONE;
        }
        return what == 1 ? search.inAll : told.everyone() & ~search.inAny;
    }

    // ---- shares, rests, chances

    public int share(int wedding, boolean upper) {
        if (!told.has(wedding)) {
            return UNKNOWN;
        }
        if (now.isWed(wedding)) {
            return fraction(0, 1, upper);
        }
        fillMostOf();
        int open = told.everyone() & ~now.wedSet;
        int self = 1 << wedding;
        int others = Integer.bitCount(open) - 1;
        int orders = 0;
        for (int set = 0; set < SETS; set++) {
            if ((set & ~open) == 0 && (set & self) == 0) {
                int ahead = Integer.bitCount(set);
                int more = at(mostOf, set | self) - at(mostOf, set);
                orders += more * at(FACTORIALS, ahead) * at(FACTORIALS, others - ahead);
            }
        }
        return fraction(orders, at(FACTORIALS, others + 1), upper);
    }

    public int rests(int one, int other, int what) {
        if (!told.has(one) || !told.has(other)) {
            return UNKNOWN;
        }
        if (one == other || what < 0 || what > 1) {
            return OUTSIDE;
        }
        if (now.isWed(one) || now.isWed(other)) {
            return STATE;
        }
        int pairs = 0;
        int first = NONE;
        for (int pair = 0; pair < 4; pair++) {
            if (isAtRest(one, other, pair >> 1, pair & 1)) {
                pairs++;
                first = first == NONE ? 10 * (pair >> 1) + (pair & 1) : first;
            }
        }
        return what == 0 ? pairs : first;
    }

    public int falls(int n, int row, int x, boolean upper) {
        if (!isRow(n, row) || x < 0 || x > 10) {
            return OUTSIDE;
        }
        if (!isRowOfOpenWeddings(n, row)) {
            return STATE;
        }
        int holding = 0;
        for (int fallen = 0; fallen < 1 << n; fallen++) {
            int weight = weightOfFalls(n, row, x, fallen);
            if (weight > 0 && holdsWithFalls(n, row, fallen)) {
                holding += weight;
            }
        }
        return fraction(holding, at(TENS, n), upper);
    }

    public long seed(long v) {
        long before = theSeed;
        theSeed = v;
        return before;
    }

    public int summers(int m) {
        if (m < 1 || m > 30) {
            return OUTSIDE;
        }
        trial.take(now);
        int weddings = 0;
        for (int i = 0; i < m; i++) {
            theSeed = theSeed * 6364136223846793005L + 1442695040888963407L;
            int event = (int) (theSeed >>> 33) & 7;
            if (event < WEDDINGS) {
                weddings += told.celebrate(trial, event) ? 1 : 0;
            } else if (event == WEDDINGS) {
                trial.hour++;
            } else {
                trial.hour = 0;
                trial.wedSet = 0;
            }
        }
        return weddings;
    }

    // ---- slots

    public int keep(int slot) {
        if (!isSlot(slot)) {
            return UNKNOWN;
        }
        Stand place = kept[slot];
        if (place == null) {
            return UNKNOWN;
        }
        place.take(now);
        wasKept[slot] = true;
        return now.hour;
    }

    public int again(int slot) {
        if (!isSlot(slot)) {
            return UNKNOWN;
        }
        if (!wasKept[slot]) {
            return STATE;
        }
        now.take(kept[slot]);
        acts.clear();
        return now.hour;
    }

    public int count(int what) {
        switch (what) {
            case 0: return text.length;
            case 1: return told.size;
            case 2: return told.sunset;
            case 3: return now.hour;
            case 4: return now.church;
            case 5: return now.wedSet;
            case 6: return holdingNext();
            case 7: return acts.size;
            case 8: return seen;
            default: return OUTSIDE;
        }
    }

    // ---- what the calls ask of one another

    private static boolean isChurch(int church) {
        return church >= 0 && church < CHURCHES;
    }

    private static boolean isRoad(int road) {
        return road >= 0 && road < ROADS;
    }

    private boolean isSlot(int slot) {
        return slot >= 0 && slot < kept.length && slot < wasKept.length;
    }

    private static int at(int[] numbers, int i) {
        return numbers != null && i >= 0 && i < numbers.length ? numbers[i] : 0;
    }

    private static boolean isRow(int n, int row) {
        return n >= 1 && n <= WEDDINGS && row >= 0 && row < at(TENS, n);
    }

    /** The number of the wedding that a row's figure means: the figure 0 is told as -1, no wedding. */
    private static int weddingInRow(int n, int row, int place) {
        int unit = at(TENS, n - 1 - place);
        return unit > 0 ? row / unit % 10 - 1 : -1;
    }

    private int holdingNext() {
        int bits = 0;
        for (int w = 0; w < told.size; w++) {
            if (told.beginOn(now, w) != NONE) {
                bits |= 1 << w;
            }
        }
        return bits;
    }

    private int mostFrom(Stand stand) {
        search.runFrom(told, stand);
        return search.longest;
    }

    private static int fraction(int above, int below, boolean upper) {
        int divisor = greatestDivisor(above, below);
        if (divisor < 1) {
            return upper ? above : below;
        }
        return (upper ? above : below) / divisor;
    }

    private static int greatestDivisor(int one, int other) {
        int a = one;
        int b = other;
        for (int i = 0; i < 64 && b > 0; i++) {
            int left = a % b;
            a = b;
            b = left;
        }
        return a;
    }

    /** A set's MOST is its size if some row of all of it holds, else that of the best set one smaller. */
    private void fillMostOf() {
        search.runFrom(told, now);
        for (int set = 0; set < mostOf.length; set++) {
            int best = 0;
            if (at(search.holding, set) != 0) {
                best = Integer.bitCount(set);
            } else {
                for (int w = 0; w < WEDDINGS; w++) {
                    if ((set >> w & 1) != 0) {
                        best = Math.max(best, at(mostOf, set & ~(1 << w)));
                    }
                }
            }
            mostOf[set] = best;
        }
    }

    private boolean isAtRest(int one, int other, int oneAsks, int otherAsks) {
        return gain(one, other, oneAsks, otherAsks) >= gain(one, other, 1 - oneAsks, otherAsks)
            && gain(other, one, otherAsks, oneAsks) >= gain(other, one, 1 - otherAsks, oneAsks);
    }

    /** What a wedding has of it, when it and the other one ask so. */
    private int gain(int self, int other, int selfAsks, int otherAsks) {
        boolean selfNext = selfAsks == otherAsks ? self < other : selfAsks == 1;
        trial.take(now);
        if (!selfNext) {
            told.celebrate(trial, other);
        }
        int begin = told.beginOn(trial, self);
        int brings = begin == NONE ? 0 : Math.max(0, 4 - (begin - now.hour));
        return brings - selfAsks;
    }

    private boolean isRowOfOpenWeddings(int n, int row) {
        int used = now.wedSet;
        for (int place = 0; place < n; place++) {
            int wedding = weddingInRow(n, row, place);
            if (!told.has(wedding) || (used >> wedding & 1) != 0) {
                return false;
            }
            used |= 1 << wedding;
        }
        return true;
    }

    /** How many of 10 to the n chances fall just so (bits of places); 0, if a fall is on no way at all. */
    private int weightOfFalls(int n, int row, int x, int fallen) {
        int weight = 1;
        int church = now.church;
        for (int place = 0; place < n; place++) {
            int next = told.figure(weddingInRow(n, row, place), CHURCH);
            boolean falls = (fallen >> place & 1) != 0;
            if (now.hoursBetween(church, next) > 0) {
                weight *= falls ? x : 10 - x;
            } else {
                weight *= falls ? 0 : 10;
            }
            church = next;
        }
        return weight;
    }

    private boolean holdsWithFalls(int n, int row, int fallen) {
        trial.take(now);
        for (int place = 0; place < n; place++) {
            trial.hour += fallen >> place & 1;
            if (!told.celebrate(trial, weddingInRow(n, row, place))) {
                return false;
            }
        }
        return true;
    }

    /** The letters of THE TEXT. */
    private static final class Text {
        final int[] letters = new int[LETTERS];
        int length = 0;

        boolean add(int letter) {
            if (length < 0 || length >= letters.length) {
                return false;
            }
            letters[length] = letter;
            length++;
            return true;
        }

        int figure(int place) {
            return at(letters, place) - '0';
        }

        int firstFault() {
            for (int place = 0; place < length; place++) {
                if (!fits(place)) {
                    return place;
                }
            }
            return length >= HEAD && (length - HEAD) % (TOLD + 1) == 0 ? NONE : length;
        }

        /** If the letter can stand there, when all ahead of it can. */
        private boolean fits(int place) {
            if (place >= HEAD) {
                return fitsWedding(place);
            }
            switch (place) {
                case 0: return at(letters, place) == 'N';
                case 1: return isFigure(place, 1, 9);
                case 2: return isFigure(place, 0, CHURCHES - 1);
                default: return isFigure(place, 0, 3);
            }
        }

        private boolean fitsWedding(int place) {
            if (place >= HEAD + WEDDINGS * (TOLD + 1)) {
                return false;
            }
            switch ((place - HEAD) % (TOLD + 1) - 1) {
                case CHURCH: return isFigure(place, 0, CHURCHES - 1);
                case OPENS: return isFigure(place, 0, 9);
                case CLOSES: return isFigure(place, figure(place - 1), 9);
                case LENGTH: return isFigure(place, 1, 3);
                case KIND: return isFigure(place, 0, 3);
                default: return at(letters, place) == 'W';
            }
        }

        private boolean isFigure(int place, int least, int last) {
            return figure(place) >= least && figure(place) <= last;
        }
    }

    /** What THE TEXT told of a day: it stays as it is until a parish is made anew. */
    private static final class Parish {
        final int[] figures = new int[WEDDINGS * TOLD];
        final int[] lasting = new int[WEDDINGS];
        int size = 0;
        int sunset = 9;

        /** Only of a text without a fault. */
        void readFrom(Text text) {
            sunset = text.figure(1);
            size = (text.length - HEAD) / (TOLD + 1);
            for (int i = 0; i < figures.length; i++) {
                int place = HEAD + i / TOLD * (TOLD + 1) + 1 + i % TOLD;
                figures[i] = place < text.length ? text.figure(place) : 0;
            }
            for (int w = 0; w < lasting.length; w++) {
                int haste = figure(w, KIND) == HASTY ? 1 : 0;
                lasting[w] = Math.max(1, figure(w, LENGTH) - haste);
            }
        }

        boolean has(int wedding) {
            return wedding >= 0 && wedding < size;
        }

        int everyone() {
            return (1 << size) - 1;
        }

        int figure(int wedding, int what) {
            int i = wedding * TOLD + what;
            return i >= 0 && i < figures.length ? figures[i] : 0;
        }

        /** When a wedding begins, if the ring is so many hours away at that hour; NONE: it does not hold. */
        int begin(int wedding, int hour, int way) {
            int late = figure(wedding, KIND) == LATE ? 1 : 0;
            int begin = Math.max(hour + way + late, figure(wedding, OPENS));
            return begin <= figure(wedding, CLOSES) && begin + at(lasting, wedding) <= sunset ? begin : NONE;
        }

        /** The hour at which the ring lies there, when the wedding has begun so. */
        int ringFree(int wedding, int begin) {
            return begin + at(lasting, wedding) + (figure(wedding, KIND) == THICK ? 1 : 0);
        }

        /** When a wedding would begin as things stand; NONE: there is none such, it is wed, or does not hold. */
        int beginOn(Stand stand, int wedding) {
            if (!has(wedding) || stand.isWed(wedding)) {
                return NONE;
            }
            return begin(wedding, stand.hour, stand.hoursBetween(stand.church, figure(wedding, CHURCH)));
        }

        /** Weds, if that can be now. */
        boolean celebrate(Stand stand, int wedding) {
            int begin = beginOn(stand, wedding);
            if (begin == NONE) {
                return false;
            }
            stand.hour = ringFree(wedding, begin);
            stand.church = figure(wedding, CHURCH);
            stand.wedSet |= 1 << wedding;
            return true;
        }
    }

    /** How things stand: all that acts change. */
    private static final class Stand {
        final int[] roads = {1, 1, 1, 1, 1};
        int hour = 0;
        int church = 0;
        int wedSet = 0;

        void take(Stand other) {
            if (other == null) {
                return;
            }
            hour = other.hour;
            church = other.church;
            wedSet = other.wedSet;
            for (int i = 0; i < roads.length; i++) {
                roads[i] = at(other.roads, i);
            }
        }

        /** Only of a text without a fault. */
        void readFrom(Text text) {
            hour = 0;
            church = text.figure(2);
            wedSet = 0;
            for (int i = 0; i < roads.length; i++) {
                roads[i] = text.figure(3 + i);
            }
        }

        boolean isWed(int wedding) {
            return wedding >= 0 && wedding < WEDDINGS && (wedSet >> wedding & 1) != 0;
        }

        void shorten(int road) {
            if (road >= 0 && road < roads.length) {
                roads[road]--;
            }
        }

        int hoursBetween(int one, int other) {
            int hours = 0;
            for (int r = Math.min(one, other); r < Math.max(one, other); r++) {
                hours += at(roads, r);
            }
            return hours;
        }
    }

    /** How things stood ahead of each act, in a ring of places, so that the first act can be forgotten. */
    private static final class Acts {
        final Stand[] before = new Stand[ACTS];
        int oldest = 0;
        int size = 0;

        Acts() {
            for (int i = 0; i < before.length; i++) {
                before[i] = new Stand();
            }
        }

        void clear() {
            oldest = 0;
            size = 0;
        }

        private Stand standAt(int i) {
            int place = (oldest + i) % ACTS;
            return place >= 0 && place < before.length ? before[place] : null;
        }

        void remember(Stand stand) {
            Stand place = standAt(size);
            if (place == null) {
                return;
            }
            place.take(stand);
            if (size < ACTS) {
                size++;
            } else {
                oldest = (oldest + 1) % ACTS;
            }
        }

        boolean takeBack(Stand stand) {
            if (size <= 0) {
                return false;
            }
            size--;
            stand.take(standAt(size));
            return true;
        }
    }

    /** Goes through all rows that hold; of one length the least as a number comes first, so the first found is it. */
    private static final class Search {
        final Stand start = new Stand();
        /** By how many weddings are done: the churches (bits) in which the ring may lie then. */
        final int[] allowed = new int[WEDDINGS + 1];
        /** By sets of weddings (bits): 1, if some row of just these holds. */
        final int[] holding = new int[SETS];
        int limit = WEDDINGS;
        int longest = 0;
        int first = 0;
        int end = 0;
        int found = 0;
        int inAll = 0;
        int inAny = 0;

        void runFrom(Parish told, Stand stand) {
            reset(stand, WEDDINGS);
            run(told);
        }

        void reset(Stand stand, int longestRow) {
            start.take(stand);
            limit = longestRow;
            longest = 0;
            first = 0;
            end = start.hour;
            found = 0;
            inAll = SETS - 1;
            inAny = 0;
            for (int i = 0; i < allowed.length; i++) {
                allowed[i] = (1 << CHURCHES) - 1;
            }
            for (int i = 0; i < holding.length; i++) {
                holding[i] = 0;
            }
        }

        void allowOnly(int weddings, int church) {
            if (weddings >= 0 && weddings < allowed.length) {
                allowed[weddings] &= 1 << church;
            }
        }

        void run(Parish told) {
            if (allows(0, start.church)) {
                goOn(this, told, 0, start.church, start.hour, 0, 0);
            }
        }

        private boolean allows(int weddings, int church) {
            return (at(allowed, weddings) >> church & 1) != 0;
        }

        private void record(int depth, int hour, int set, int row) {
            if (depth > longest) {
                longest = depth;
                first = row;
                end = hour;
            } else if (depth == longest) {
                end = Math.min(end, hour);
            }
            if (set >= 0 && set < holding.length) {
                holding[set] = 1;
            }
            if (depth == limit) {
                found++;
                inAll &= set;
                inAny |= set;
            }
        }

        /** The row of the set's weddings holds and leaves the ring there: it, and all that go on from it. */
        private static void goOn(Search search, Parish told, int depth, int church, int hour, int set, int row) {
            search.record(depth, hour, set, row);
            if (depth >= search.limit || depth >= WEDDINGS) {
                return;
            }
            for (int w = 0; w < told.size; w++) {
                int next = told.figure(w, CHURCH);
                boolean open = ((search.start.wedSet | set) >> w & 1) == 0;
                if (open && search.allows(depth + 1, next)) {
                    int begin = told.begin(w, hour, search.start.hoursBetween(church, next));
                    if (begin != NONE) {
                        int then = told.ringFree(w, begin);
                        goOn(search, told, depth + 1, next, then, set | 1 << w, row * 10 + w + 1);
                    }
                }
            }
        }
    }
}
