/** The document's boundary sentences about weddings, roads, ways and acts (promises 6 to 13), one by one. */
public final class BoundaryActs {
    private static final int UNKNOWN = -1, STATE = -3, OUTSIDE = -2, NONE = -9;
    private static final int MIN = Integer.MIN_VALUE, MAX = Integer.MAX_VALUE;
    private static final String SIX = "N9000000W00910W00910W00910W00910W00910W00910";

    private static int wrong = 0;
    private static String sentence = "";

    public static void main(String[] args) {
        weddingsThereAre();
        whatIsAsked();
        unknownBeforeOutside();
        figuresToTheirEnds();
        wedOrNot();
        beginsNow();
        beginsAtTheWay();
        beginsOneLaterIfLate();
        beginsAtAIfLater();
        holdsAtB();
        holdsAtSunset();
        hastyOneAtLeast();
        thickOneMore();
        roadsThereAre();
        roadsToTheirEnds();
        churchesThereAre();
        waysOfNoneAndAll();
        waysBothWays();
        wedUnknown();
        wedAlready();
        wedThatDoesNotHold();
        wedAllSix();
        wedThen();
        carriedUnknown();
        carriedWhereItLies();
        carriedByTheWay();
        carriedPastSunset();
        waited();
        waitedPastSunset();
        mendedUnknown();
        mendedToNone();
        mendedOneAlone();
        undoneNone();
        undoneEach();
        undoneToTheFirst();
        fourteenActs();
        fifteenActs();
        manyActs();
        actsBehindUndone();
        refusedActs();
        noOtherActs();
        undoneAlone();
        System.out.println(wrong == 0 ? "all answers are as due" : wrong + " answers are not as due");
        if (wrong != 0) {
            System.exit(1);
        }
    }

    private static void due(String call, long got, long want) {
        if (got != want) {
            wrong++;
            System.out.println(sentence + ": " + call + " answered " + got + ", due is " + want);
        }
    }

    private static OneRing parishOf(String letters) {
        OneRing x = new OneRing();
        for (int i = 0; i < letters.length(); i++) {
            x.write(letters.charAt(i));
        }
        due("parish() of " + letters, x.parish(), (letters.length() - 8) / 6);
        return x;
    }

    private static void linger(OneRing x, int hours) {
        for (int i = 0; i < hours; i++) {
            x.linger();
        }
    }

    /** SUNSET, THE HOUR, where the RING lies, who is WED, ACTS. */
    private static void standsAt(OneRing x, int hour, int church, int wed, int acts) {
        due("count(3)", x.count(3), hour);
        due("count(4)", x.count(4), church);
        due("count(5)", x.count(5), wed);
        due("count(7)", x.count(7), acts);
    }

    // ---- wedding

    private static void weddingsThereAre() {
        sentence = "wedding: UNKNOWN: there is no such WEDDING";
        for (int n = 0; n <= 6; n++) {
            OneRing x = parishOf(SIX.substring(0, 8 + 6 * n));
            for (int w = 0; w < n; w++) {
                due("wedding(" + w + ", 2) of " + n, x.wedding(w, 2), 9);
            }
            for (int w : new int[] {MIN, -9, -1, n, n + 1, 6, 7, 100, MAX}) {
                due("wedding(" + w + ", 2) of " + n, x.wedding(w, 2), UNKNOWN);
            }
        }
    }

    private static void whatIsAsked() {
        sentence = "wedding: OUTSIDE: what is 0 to 6";
        OneRing x = parishOf("N9000000W12332");
        int[] wants = {1, 2, 3, 3, 2, 0, 2};
        for (int what = 0; what <= 6; what++) {
            due("wedding(0, " + what + ")", x.wedding(0, what), wants[what]);
        }
        for (int what : new int[] {MIN, -9, -1, 7, 8, MAX}) {
            due("wedding(0, " + what + ")", x.wedding(0, what), OUTSIDE);
        }
    }

    private static void unknownBeforeOutside() {
        sentence = "wedding: UNKNOWN before OUTSIDE";
        OneRing x = parishOf(SIX.substring(0, 14));
        for (int w : new int[] {-1, 1}) {
            for (int what : new int[] {-1, 7}) {
                due("wedding(" + w + ", " + what + ")", x.wedding(w, what), UNKNOWN);
            }
        }
    }

    private static void figuresToTheirEnds() {
        sentence = "CHURCH p (0 to 5), a to b (0 to 9), l (1 to 3), KIND (0 to 3), of each of six WEDDINGS";
        OneRing x = parishOf("N9000000W00010W50911W29932W10033W44423W59930");
        int[][] wants = {{0, 0, 0, 1, 0}, {5, 0, 9, 1, 1}, {2, 9, 9, 3, 2}, {1, 0, 0, 3, 3}, {4, 4, 4, 2, 3}, {5, 9, 9, 3, 0}};
        for (int w = 0; w < 6; w++) {
            for (int what = 0; what < 5; what++) {
                due("wedding(" + w + ", " + what + ")", x.wedding(w, what), wants[w][what]);
            }
        }
    }

    private static void wedOrNot() {
        sentence = "wedding: 1 if it is WED (5), NONE: it is WED (6)";
        OneRing x = parishOf(SIX);
        due("wedding(5, 5)", x.wedding(5, 5), 0);
        due("wedding(5, 6)", x.wedding(5, 6), 0);
        x.wed(5);
        due("wedding(5, 5)", x.wedding(5, 5), 1);
        due("wedding(5, 6)", x.wedding(5, 6), NONE);
        due("wedding(4, 5)", x.wedding(4, 5), 0);
        due("wedding(4, 6)", x.wedding(4, 6), 1);
        x.undo();
        due("wedding(5, 5)", x.wedding(5, 5), 0);
        due("wedding(5, 6)", x.wedding(5, 6), 0);
    }

    // ---- when a wedding begins, and if it holds

    /** In a parish of one wedding, when some hours have been waited: it begins (NONE: does not hold), the ring is free. */
    private static void begins(String letters, int hours, int begin, int free) {
        OneRing x = parishOf(letters);
        linger(x, hours);
        due(letters + " at " + hours + ": wedding(0, 6)", x.wedding(0, 6), begin);
        due(letters + " at " + hours + ": count(6)", x.count(6), begin == NONE ? 0 : 1);
        due(letters + " at " + hours + ": judge(1, 1)", x.judge(1, 1), begin == NONE ? 0 : NONE);
        due(letters + " at " + hours + ": most(2)", x.most(2), begin == NONE ? hours : free);
        due(letters + " at " + hours + ": wed(0)", x.wed(0), begin == NONE ? STATE : free);
    }

    private static void beginsNow() {
        sentence = "it BEGINS at that HOUR, if the WAY is of none";
        begins("N9033333W00910", 0, 0, 1);
        begins("N9533333W50910", 3, 3, 4);
        begins("N9000000W50910", 8, 8, 9);
        begins("N9000000W50910", 9, NONE, 0);
    }

    private static void beginsAtTheWay() {
        sentence = "it BEGINS at that HOUR and the WAY to its CHURCH";
        begins("N9010000W10910", 0, 1, 2);
        begins("N9033000W20910", 0, 6, 7);
        begins("N9033000W20910", 2, 8, 9);
        begins("N9033000W20910", 3, NONE, 0);
        begins("N9500033W30910", 1, 7, 8);
        begins("N9033333W50910", 0, NONE, 0);
    }

    private static void beginsOneLaterIfLate() {
        sentence = "LATE: 1 more";
        begins("N9000000W00912", 0, 1, 2);
        begins("N9000000W00012", 0, NONE, 0);
        begins("N9000000W00112", 0, 1, 2);
        begins("N9020000W10312", 0, 3, 4);
        begins("N9020000W10212", 0, NONE, 0);
        begins("N9000000W00912", 7, 8, 9);
        begins("N9000000W00912", 8, NONE, 0);
    }

    private static void beginsAtAIfLater() {
        sentence = "or at a, if that is later";
        begins("N9010000W10910", 0, 1, 2);
        begins("N9010000W11910", 0, 1, 2);
        begins("N9010000W12910", 0, 2, 3);
        begins("N9010000W11912", 0, 2, 3);
        begins("N9010000W12912", 0, 2, 3);
        begins("N9010000W13912", 0, 3, 4);
        begins("N9000000W08910", 0, 8, 9);
        begins("N9000000W09910", 0, NONE, 0);
    }

    private static void holdsAtB() {
        sentence = "It HOLDS, if it BEGINS at b or earlier";
        begins("N9000000W00010", 0, 0, 1);
        begins("N9000000W00010", 1, NONE, 0);
        begins("N9010000W10310", 2, 3, 4);
        begins("N9010000W10310", 3, NONE, 0);
        begins("N9000000W03310", 3, 3, 4);
        begins("N9000000W03310", 4, NONE, 0);
        begins("N9000000W05510", 0, 5, 6);
    }

    private static void holdsAtSunset() {
        sentence = "It HOLDS, if it ends (l HOURS later) at SUNSET or earlier";
        begins("N1000000W00910", 0, 0, 1);
        begins("N1000000W00910", 1, NONE, 0);
        begins("N1000000W00920", 0, NONE, 0);
        begins("N3000000W00930", 0, 0, 3);
        begins("N2000000W00930", 0, NONE, 0);
        begins("N9000000W00930", 6, 6, 9);
        begins("N9000000W00930", 7, NONE, 0);
        begins("N9000000W07930", 0, NONE, 0);
        begins("N5000000W04410", 0, 4, 5);
        begins("N4000000W04410", 0, NONE, 0);
    }

    private static void hastyOneAtLeast() {
        sentence = "HASTY: 1 HOUR less, 1 at least";
        begins("N9000000W00913", 0, 0, 1);
        begins("N9000000W00923", 0, 0, 1);
        begins("N9000000W00933", 0, 0, 2);
        begins("N1000000W00913", 0, 0, 1);
        begins("N1000000W00913", 1, NONE, 0);
        begins("N1000000W00923", 0, 0, 1);
        begins("N1000000W00923", 1, NONE, 0);
        begins("N2000000W00933", 0, 0, 2);
        begins("N1000000W00933", 0, NONE, 0);
    }

    private static void thickOneMore() {
        sentence = "Then the RING lies there at the HOUR of its end (THICK: 1 HOUR more)";
        begins("N9000000W00911", 0, 0, 2);
        begins("N9000000W00931", 0, 0, 4);
        begins("N9000000W00931", 6, 6, 10);
        begins("N9000000W00931", 7, NONE, 0);
        begins("N1000000W00911", 0, 0, 2);
        OneRing x = parishOf("N9011111W30911W30910");
        x.wed(0);
        standsAt(x, 5, 3, 1, 1);
        due("the next one begins then", x.wedding(1, 6), 5);
    }

    // ---- roads and ways

    private static void roadsThereAre() {
        sentence = "road: UNKNOWN: ROAD r (0 to 4)";
        OneRing x = parishOf("N9012301");
        int[] wants = {1, 2, 3, 0, 1};
        for (int r = 0; r <= 4; r++) {
            due("road(" + r + ")", x.road(r), wants[r]);
        }
        for (int r : new int[] {MIN, -9, -1, 5, 6, 256, MAX}) {
            due("road(" + r + ")", x.road(r), UNKNOWN);
        }
    }

    private static void roadsToTheirEnds() {
        sentence = "how many HOURS each ROAD is long (0 to 3)";
        OneRing x = parishOf("N9000003");
        due("road(0)", x.road(0), 0);
        due("road(4)", x.road(4), 3);
        x = parishOf("N9030000");
        due("road(0)", x.road(0), 3);
        due("road(4)", x.road(4), 0);
    }

    private static void churchesThereAre() {
        sentence = "way: UNKNOWN: both";
        OneRing x = new OneRing();
        for (int church : new int[] {MIN, -9, -1, 6, 7, MAX}) {
            due("way(" + church + ", 0)", x.way(church, 0), UNKNOWN);
            due("way(" + church + ", 5)", x.way(church, 5), UNKNOWN);
            due("way(0, " + church + ")", x.way(0, church), UNKNOWN);
            due("way(5, " + church + ")", x.way(5, church), UNKNOWN);
            due("way(" + church + ", " + church + ")", x.way(church, church), UNKNOWN);
            due("way(" + church + ", -1)", x.way(church, -1), UNKNOWN);
        }
        due("way(0, 5)", x.way(0, 5), 5);
        due("way(5, 0)", x.way(5, 0), 5);
    }

    private static void waysOfNoneAndAll() {
        sentence = "WAY: HOURS of all ROADS between them, together: 0 of no ROAD, 15 at most";
        OneRing x = parishOf("N9033333");
        for (int church = 0; church <= 5; church++) {
            due("way(" + church + ", " + church + ")", x.way(church, church), 0);
        }
        due("way(0, 5)", x.way(0, 5), 15);
        due("way(5, 0)", x.way(5, 0), 15);
        due("way(0, 4)", x.way(0, 4), 12);
        due("way(5, 1)", x.way(5, 1), 12);
        x = parishOf("N9000000");
        due("way(0, 5)", x.way(0, 5), 0);
    }

    private static void waysBothWays() {
        sentence = "ROAD r is between CHURCH r and r and 1";
        OneRing x = parishOf("N9012301");
        int[] from0 = {0, 1, 3, 6, 6, 7};
        for (int one = 0; one <= 5; one++) {
            for (int other = 0; other <= 5; other++) {
                due("way(" + one + ", " + other + ")", x.way(one, other), Math.abs(from0[one] - from0[other]));
            }
        }
    }

    // ---- wed

    private static void wedUnknown() {
        sentence = "wed: UNKNOWN";
        for (int n = 0; n <= 6; n++) {
            OneRing x = parishOf(SIX.substring(0, 8 + 6 * n));
            for (int w : new int[] {MIN, -9, -1, n, n + 1, 31, 32, 64, MAX}) {
                due("wed(" + w + ") of " + n, x.wed(w), UNKNOWN);
            }
            standsAt(x, 0, 0, 0, 0);
        }
    }

    private static void wedAlready() {
        sentence = "wed: STATE: it is WED";
        OneRing x = parishOf(SIX);
        for (int w = 0; w < 6; w++) {
            due("wed(" + w + ")", x.wed(w), w + 1);
            due("wed(" + w + ")", x.wed(w), STATE);
            due("wed(0)", x.wed(0), STATE);
        }
        standsAt(x, 6, 0, 63, 6);
    }

    private static void wedThatDoesNotHold() {
        sentence = "wed: STATE: it does not HOLD";
        OneRing x = parishOf("N9011111W50410W50510W00010W00930");
        due("wed(0)", x.wed(0), STATE);
        standsAt(x, 0, 0, 0, 0);
        due("wed(1)", x.wed(1), 6);
        due("wed(2)", x.wed(2), STATE);
        due("wed(3)", x.wed(3), STATE);
        standsAt(x, 6, 5, 2, 1);
    }

    private static void wedAllSix() {
        sentence = "6 WEDDINGS at most: all of them can be WED, in each order";
        OneRing x = parishOf(SIX);
        for (int w = 5; w >= 0; w--) {
            due("wed(" + w + ")", x.wed(w), 6 - w);
        }
        standsAt(x, 6, 0, 63, 6);
        due("count(6)", x.count(6), 0);
        due("most(0)", x.most(0), 0);
        due("most(2)", x.most(2), 6);
    }

    private static void wedThen() {
        sentence = "wed: THE HOUR then";
        OneRing x = parishOf("N9022222W10911W12923W50912");
        due("wed(0): from 2 to 3, and 1 more", x.wed(0), 4);
        due("wed(1): from 4, 1 hour", x.wed(1), 5);
        due("wed(2): too far", x.wed(2), STATE);
        standsAt(x, 5, 1, 3, 2);
    }

    // ---- carry, linger

    private static void carriedUnknown() {
        sentence = "carry: UNKNOWN";
        OneRing x = parishOf("N9311111");
        for (int church : new int[] {MIN, -9, -1, 6, 7, 32, MAX}) {
            due("carry(" + church + ")", x.carry(church), UNKNOWN);
        }
        standsAt(x, 0, 3, 0, 0);
        due("carry(0)", x.carry(0), 3);
        due("carry(5)", x.carry(5), 8);
    }

    private static void carriedWhereItLies() {
        sentence = "carry: STATE: it lies there";
        for (int church = 0; church <= 5; church++) {
            OneRing x = parishOf("N9" + church + "11111");
            due("carry(" + church + ")", x.carry(church), STATE);
            standsAt(x, 0, church, 0, 0);
            int other = church == 5 ? 4 : church + 1;
            due("carry(" + other + ")", x.carry(other), 1);
            due("carry(" + other + ")", x.carry(other), STATE);
            due("carry(" + church + ")", x.carry(church), 2);
            standsAt(x, 2, church, 0, 2);
        }
    }

    private static void carriedByTheWay() {
        sentence = "CARRIED: as many HOURS later as the WAY is: of 0 HOURS, too";
        OneRing x = parishOf("N9000333");
        due("carry(2)", x.carry(2), 0);
        standsAt(x, 0, 2, 0, 1);
        due("carry(3)", x.carry(3), 3);
        due("carry(0)", x.carry(0), 6);
        standsAt(x, 6, 0, 0, 3);
    }

    private static void carriedPastSunset() {
        sentence = "CARRIED: no SUNSET is told: it may be later than that";
        OneRing x = parishOf("N1033333");
        due("carry(5)", x.carry(5), 15);
        due("carry(0)", x.carry(0), 30);
        standsAt(x, 30, 0, 0, 2);
    }

    private static void waited() {
        sentence = "WAITED: an HOUR later";
        OneRing x = parishOf("N9433333W40910");
        due("linger()", x.linger(), 1);
        standsAt(x, 1, 4, 0, 1);
        due("wedding(0, 6)", x.wedding(0, 6), 1);
    }

    private static void waitedPastSunset() {
        sentence = "WAITED: no SUNSET is told: up to the 512th call";
        OneRing x = new OneRing();
        for (int call = 1; call <= 512; call++) {
            due("call " + call + ": linger()", x.linger(), call);
        }
    }

    // ---- mend

    private static void mendedUnknown() {
        sentence = "mend: UNKNOWN";
        OneRing x = new OneRing();
        for (int r : new int[] {MIN, -9, -1, 5, 6, MAX}) {
            due("mend(" + r + ")", x.mend(r), UNKNOWN);
        }
        due("way(0, 5)", x.way(0, 5), 5);
        due("mend(0)", x.mend(0), 0);
        due("mend(4)", x.mend(4), 0);
    }

    private static void mendedToNone() {
        sentence = "mend: STATE: it is 0 long";
        for (int r = 0; r <= 4; r++) {
            OneRing x = parishOf("N9033333");
            for (int left = 2; left >= 0; left--) {
                due("mend(" + r + ")", x.mend(r), left);
                due("road(" + r + ")", x.road(r), left);
            }
            due("mend(" + r + ")", x.mend(r), STATE);
            due("road(" + r + ")", x.road(r), 0);
            standsAt(x, 0, 0, 0, 3);
            due("way(0, 5)", x.way(0, 5), 12);
        }
    }

    private static void mendedOneAlone() {
        sentence = "MENDED: a ROAD is 1 HOUR shorter, no other one";
        for (int r = 0; r <= 4; r++) {
            OneRing x = parishOf("N9022222");
            due("mend(" + r + ")", x.mend(r), 1);
            for (int other = 0; other <= 4; other++) {
                due("road(" + other + ")", x.road(other), other == r ? 1 : 2);
            }
            standsAt(x, 0, 0, 0, 1);
        }
    }

    // ---- undo

    private static void undoneNone() {
        sentence = "undo: STATE: there is none";
        OneRing x = new OneRing();
        due("undo()", x.undo(), STATE);
        x = parishOf(SIX);
        due("undo()", x.undo(), STATE);
        x.linger();
        due("undo()", x.undo(), 0);
        due("undo()", x.undo(), STATE);
        due("undo()", x.undo(), STATE);
        standsAt(x, 0, 0, 0, 0);
    }

    private static void undoneEach() {
        sentence = "The last ACT is undone: WED, CARRIED, WAITED, MENDED";
        OneRing x = parishOf("N9111111W32911");
        x.linger();
        standsAt(x, 1, 1, 0, 1);
        x.wed(0);
        standsAt(x, 5, 3, 1, 2);
        due("undo() of WED", x.undo(), 1);
        standsAt(x, 1, 1, 0, 1);
        x.carry(5);
        standsAt(x, 5, 5, 0, 2);
        due("undo() of CARRIED", x.undo(), 1);
        standsAt(x, 1, 1, 0, 1);
        x.mend(4);
        due("road(4)", x.road(4), 0);
        due("undo() of MENDED", x.undo(), 1);
        due("road(4)", x.road(4), 1);
        standsAt(x, 1, 1, 0, 1);
        due("undo() of WAITED", x.undo(), 0);
        standsAt(x, 0, 1, 0, 0);
    }

    private static void undoneToTheFirst() {
        sentence = "undo: how many are left: 0 behind the first one";
        OneRing x = parishOf("N9022222W50930W10910");
        x.mend(0);
        x.mend(0);
        x.wed(1);
        x.carry(2);
        x.linger();
        standsAt(x, 4, 2, 2, 5);
        for (int left = 4; left >= 0; left--) {
            due("undo()", x.undo(), left);
            due("count(7)", x.count(7), left);
        }
        standsAt(x, 0, 0, 0, 0);
        due("road(0)", x.road(0), 2);
    }

    private static void fourteenActs() {
        sentence = "ACTS are a row (14 at most): of 14 none is forgotten";
        OneRing x = new OneRing();
        for (int n = 1; n <= 14; n++) {
            x.linger();
            due("count(7)", x.count(7), n);
        }
        for (int left = 13; left >= 0; left--) {
            due("undo()", x.undo(), left);
            due("count(3)", x.count(3), left);
        }
        due("undo()", x.undo(), STATE);
    }

    private static void fifteenActs() {
        sentence = "ACTS: of more than 14 the first one is forgotten";
        OneRing x = new OneRing();
        x.mend(0);
        linger(x, 14);
        due("count(7)", x.count(7), 14);
        for (int left = 13; left >= 0; left--) {
            due("undo()", x.undo(), left);
        }
        due("undo()", x.undo(), STATE);
        due("count(3)", x.count(3), 0);
        due("road(0): the first act stays", x.road(0), 0);
    }

    private static void manyActs() {
        sentence = "ACTS: of more than 14 the first one is forgotten, each time";
        for (int more = 0; more <= 30; more++) {
            OneRing x = new OneRing();
            linger(x, 14 + more);
            due("count(7)", x.count(7), 14);
            for (int left = 13; left >= 0; left--) {
                due("undo() of " + (14 + more), x.undo(), left);
                due("count(3)", x.count(3), more + left);
            }
            due("undo()", x.undo(), STATE);
            due("count(3)", x.count(3), more);
        }
    }

    private static void actsBehindUndone() {
        sentence = "an ACT behind undone ones is the last one";
        OneRing x = new OneRing();
        linger(x, 20);
        due("undo()", x.undo(), 13);
        due("undo()", x.undo(), 12);
        x.carry(5);
        due("count(7)", x.count(7), 13);
        x.mend(0);
        x.mend(1);
        due("count(7)", x.count(7), 14);
        due("undo()", x.undo(), 13);
        due("undo()", x.undo(), 12);
        due("undo()", x.undo(), 11);
        standsAt(x, 18, 0, 0, 11);
        for (int left = 10; left >= 0; left--) {
            due("undo()", x.undo(), left);
        }
        standsAt(x, 7, 0, 0, 0);
    }

    private static void refusedActs() {
        sentence = "what is refused is no ACT";
        OneRing x = parishOf("N9011111W00010");
        x.linger();
        x.mend(2);
        x.wed(0);
        x.wed(-1);
        x.wed(1);
        x.carry(0);
        x.carry(6);
        x.mend(2);
        x.mend(5);
        x.again(0);
        standsAt(x, 1, 0, 0, 2);
        due("undo()", x.undo(), 1);
        due("road(2)", x.road(2), 1);
    }

    private static void noOtherActs() {
        sentence = "ACTS (WED, CARRIED, WAITED, MENDED): no other call is one";
        OneRing x = parishOf("N9011111W20910W30910");
        x.linger();
        x.wipe();
        x.write('N');
        x.fault();
        x.see(1, 2);
        x.unsee();
        x.seed(4);
        x.summers(30);
        x.keep(0);
        x.wedding(0, 6);
        x.most(0);
        x.slack();
        x.mending(true);
        x.judge(2, 12);
        x.later(0);
        x.rows(2, 0);
        x.share(0, true);
        x.rests(0, 1, 0);
        x.falls(2, 12, 5, true);
        standsAt(x, 1, 0, 0, 1);
        due("undo()", x.undo(), 0);
        due("count(3)", x.count(3), 0);
    }

    private static void undoneAlone() {
        sentence = "The last ACT is undone, and nothing else: THE TEXT, SEEN, THE SEED, SLOTS stay";
        OneRing x = parishOf("N9011111W20910W30910");
        x.mend(0);
        x.wed(0);
        x.write('W');
        x.see(1, 2);
        x.seed(77);
        x.keep(1);
        due("undo()", x.undo(), 1);
        standsAt(x, 0, 0, 0, 1);
        due("road(0)", x.road(0), 0);
        due("count(0)", x.count(0), 21);
        due("count(8)", x.count(8), 1);
        due("seed(0)", x.seed(0), 77);
        due("again(1)", x.again(1), 2);
        standsAt(x, 2, 2, 1, 0);
    }
}
