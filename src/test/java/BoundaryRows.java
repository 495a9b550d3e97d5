/** The document's boundary sentences about rows of weddings and what is seen (promises 14 to 21), one by one. */
public final class BoundaryRows {
    private static final int UNKNOWN = -1, OUTSIDE = -2, STATE = -3, FULL = -4, NONE = -9;
    private static final int MIN = Integer.MIN_VALUE, MAX = Integer.MAX_VALUE;
    private static final String SIX = "N9000000W00910W00910W00910W00910W00910W00910";
    private static final String APART = "N9000000W00910W10910W20910W30910W40910W50910";

    private static int wrong = 0;
    private static String sentence = "";

    public static void main(String[] args) {
        mostOfWhat();
        mostOfNone();
        mostOfSix();
        mostOfTheOthers();
        firstAsANumber();
        endOfAnyRow();
        endPastSunset();
        slackOfNone();
        slackToTheLastHour();
        slackOfNineHours();
        slackFromNow();
        slackOfAnotherRow();
        mendNoRoad();
        mendTheOnlyRoad();
        mendTheLeastOfLikeOnes();
        mendTheLastRoad();
        mendOneHourAlone();
        judgedOfSoMany();
        judgedFigures();
        judgedNoWedding();
        judgedWed();
        judgedThatDoesNotHold();
        judgedOfSix();
        laterUnknown();
        laterWed();
        laterFromNoneToTheLast();
        laterByB();
        laterBySunset();
        laterWhereItLies();
        seenChurches();
        seenWeddings();
        seenFull();
        seenRefusalsInTurn();
        unseen();
        rowsOfSoMany();
        rowsOfWhat();
        rowsOfNoWedding();
        rowsOfSix();
        rowsThereAreNone();
        rowsOfThoseNotWed();
        rowsBySeenOfNoMore();
        rowsBySeenOfNone();
        rowsBySeenOfSix();
        rowsBySixSeen();
        rowsBySeenTwice();
        rowsAsThingsAreNow();
        System.out.println(wrong == 0 ? "all answers are as due" : wrong + " answers are not as due");
        if (wrong != 0) {
            System.exit(1);
        }
    }

    private static void due(String call, long got, long want) {
        if (got != want) {
            wrong++;
            System.out.println(sentence + ": " + call + " answered " + got + ", due is " + want);
        }
    }

    private static OneRing parishOf(String letters) {
        OneRing x = new OneRing();
        for (int i = 0; i < letters.length(); i++) {
            x.write(letters.charAt(i));
        }
        due("parish() of " + letters, x.parish(), (letters.length() - 8) / 6);
        return x;
    }

    private static OneRing waited(String letters, int hours) {
        OneRing x = parishOf(letters);
        for (int i = 0; i < hours; i++) {
            x.linger();
        }
        return x;
    }

    // ---- most

    private static void mostIs(OneRing x, int many, int first, int end) {
        due("most(0)", x.most(0), many);
        due("most(1)", x.most(1), first);
        due("most(2)", x.most(2), end);
    }

    private static void mostOfWhat() {
        sentence = "most: OUTSIDE: what is 0 to 2";
        OneRing x = parishOf("N9000000W04910");
        mostIs(x, 1, 1, 5);
        for (int what : new int[] {MIN, -9, -1, 3, 4, MAX}) {
            due("most(" + what + ")", x.most(what), OUTSIDE);
        }
    }

    private static void mostOfNone() {
        sentence = "MOST 0; the first such ROW 0: none; END the HOUR now: of none";
        mostIs(new OneRing(), 0, 0, 0);
        mostIs(waited("N9000000", 4), 0, 0, 4);
        mostIs(waited("N9000000W00010", 1), 0, 0, 1);
        mostIs(waited("N9000000W00910", 8), 1, 1, 9);
        mostIs(waited("N9000000W00910", 9), 0, 0, 9);
        mostIs(waited("N9000000W00910", 12), 0, 0, 12);
        mostIs(parishOf("N1000000W00920W01110"), 0, 0, 0);
    }

    private static void mostOfSix() {
        sentence = "MOST of 6 at most";
        mostIs(parishOf(SIX), 6, 123456, 6);
        mostIs(parishOf("N6000000W00910W00910W00910W00910W00910W00910"), 6, 123456, 6);
        mostIs(parishOf("N5000000W00910W00910W00910W00910W00910W00910"), 5, 12345, 5);
        mostIs(parishOf("N9000000W05510W04410W03310W02210W01110W00010"), 6, 654321, 6);
    }

    private static void mostOfTheOthers() {
        sentence = "A ROW of WEDDINGS (each once, such as are not WED)";
        OneRing x = parishOf(SIX);
        x.wed(0);
        mostIs(x, 5, 23456, 6);
        x.wed(5);
        mostIs(x, 4, 2345, 6);
        for (int w = 1; w <= 4; w++) {
            x.wed(w);
        }
        mostIs(x, 0, 0, 6);
    }

    private static void firstAsANumber() {
        sentence = "the first such ROW (as figures, 1 more each, the least as a number)";
        mostIs(parishOf("N9000000W00910W00910"), 2, 12, 2);
        mostIs(parishOf("N2000000W01110W00910W00910"), 2, 21, 2);
        mostIs(parishOf("N9000000W00030W00010W00030"), 1, 1, 1);
        mostIs(parishOf("N2000000W01110W00010W00020"), 2, 21, 2);
    }

    private static void endOfAnyRow() {
        sentence = "END: the least HOUR at which the RING can lie somewhere behind a ROW of MOST";
        mostIs(parishOf("N9000000W05910W00930"), 2, 12, 6);
        mostIs(parishOf("N9000000W00031W00030W00033"), 1, 1, 2);
        mostIs(parishOf("N9000000W00031W00030"), 1, 1, 3);
    }

    private static void endPastSunset() {
        sentence = "END: THICK: 1 HOUR more, past SUNSET, too";
        mostIs(parishOf("N1000000W00911"), 1, 1, 2);
        mostIs(parishOf("N9000000W06931"), 1, 1, 10);
    }

    // ---- slack

    private static void slackOfNone() {
        sentence = "SLACK: 0 HOURS";
        due("slack()", parishOf("N9000000W00010").slack(), 0);
        due("slack()", parishOf("N1000000W00910").slack(), 0);
        due("slack()", waited("N9000000W00910", 8).slack(), 0);
        due("slack(): of two, one would be lost", parishOf("N9000000W00010W08810").slack(), 0);
    }

    private static void slackToTheLastHour() {
        sentence = "SLACK: as many HOURS as MOST is as many";
        due("slack()", parishOf("N9000000W00110").slack(), 1);
        due("slack()", parishOf("N9000000W01110").slack(), 1);
        due("slack()", parishOf("N9000000W00910").slack(), 8);
        due("slack()", parishOf("N9000000W00912").slack(), 7);
        due("slack()", parishOf("N8000000W00910").slack(), 7);
        due("slack()", parishOf(SIX).slack(), 3);
    }

    private static void slackOfNineHours() {
        sentence = "SLACK: 9 HOURS at most";
        due("slack() of no weddings", new OneRing().slack(), 9);
        due("slack() of none that holds", parishOf("N9000000W09910").slack(), 9);
        due("slack() past sunset", waited("N9000000W00910", 9).slack(), 9);
        due("slack() past sunset", waited(SIX, 30).slack(), 9);
    }

    private static void slackFromNow() {
        sentence = "SLACK: how many HOURS one may WAIT now";
        for (int now = 0; now <= 7; now++) {
            due("slack() at " + now, waited("N9000000W07710", now).slack(), 7 - now);
        }
        due("slack() at 8", waited("N9000000W07710", 8).slack(), 9);
    }

    private static void slackOfAnotherRow() {
        sentence = "SLACK: MOST is as many, by another ROW, too";
        due("slack()", parishOf("N9000000W00030W02230").slack(), 2);
        due("slack()", parishOf("N9000000W00030W02230W05530").slack(), 2);
    }

    // ---- mending

    private static void mendIs(OneRing x, int which, int many) {
        due("mending(false)", x.mending(false), which);
        due("mending(true)", x.mending(true), many);
    }

    private static void mendNoRoad() {
        sentence = "MEND: NONE: no ROAD is longer than 0";
        mendIs(parishOf("N9000000"), NONE, NONE);
        mendIs(parishOf(SIX), NONE, NONE);
        OneRing x = new OneRing();
        for (int r = 0; r <= 4; r++) {
            mendIs(x, r, 0);
            x.mend(r);
        }
        mendIs(x, NONE, NONE);
        x.undo();
        mendIs(x, 4, 0);
    }

    private static void mendTheOnlyRoad() {
        sentence = "MEND: a ROAD longer than 0, each of 0 to 4";
        String[] roads = {"10000", "03000", "00200", "00010", "00001"};
        for (int r = 0; r <= 4; r++) {
            mendIs(parishOf("N90" + roads[r]), r, 0);
            mendIs(parishOf("N90" + roads[r] + "W00910"), r, 1);
        }
    }

    private static void mendTheLeastOfLikeOnes() {
        sentence = "MEND: of like ones the least";
        mendIs(parishOf("N9011111"), 0, 0);
        mendIs(parishOf("N9011111W00910"), 0, 1);
        mendIs(parishOf("N9011111W30210"), 0, 1);
        mendIs(parishOf("N9001111W30210"), 1, 1);
        mendIs(parishOf("N9311111W00210"), 0, 1);
    }

    private static void mendTheLastRoad() {
        sentence = "MEND: the ROAD by which MOST is most";
        mendIs(parishOf("N9511111W40010"), 4, 1);
        mendIs(parishOf("N9411111W50010"), 4, 1);
        mendIs(parishOf("N9111111W00010"), 0, 1);
        mendIs(parishOf("N9111111W00010W21110"), 0, 1);
        mendIs(parishOf("N9111111W20010W00110"), 0, 1);
        mendIs(parishOf("N9111111W20010W00210"), 1, 2);
    }

    private static void mendOneHourAlone() {
        sentence = "MEND: 1 HOUR shorter";
        mendIs(parishOf("N9022222W20210"), 0, 0);
        mendIs(parishOf("N9022222W20310"), 0, 1);
        mendIs(parishOf("N9002000W20010"), 1, 0);
        mendIs(parishOf("N9002000W20110"), 1, 1);
        mendIs(parishOf("N9003000W20110"), 1, 0);
    }

    // ---- judge

    private static void judgedOfSoMany() {
        sentence = "judge: OUTSIDE: n (1 to 6)";
        OneRing x = parishOf(SIX);
        int[] rows = {0, 1, 12, 123, 1234, 12345, 123456};
        for (int n = 1; n <= 6; n++) {
            due("judge(" + n + ", " + rows[n] + ")", x.judge(n, rows[n]), NONE);
        }
        for (int n : new int[] {MIN, -9, -1, 0, 7, 8, MAX}) {
            due("judge(" + n + ", 1)", x.judge(n, 1), OUTSIDE);
            due("judge(" + n + ", 0)", x.judge(n, 0), OUTSIDE);
            due("judge(" + n + ", 123456)", x.judge(n, 123456), OUTSIDE);
            due("judge(" + n + ", -1)", x.judge(n, -1), OUTSIDE);
        }
    }

    private static void judgedFigures() {
        sentence = "judge: OUTSIDE: row (0 or more, n figures at most)";
        OneRing x = parishOf(SIX);
        int unit = 1;
        for (int n = 1; n <= 6; n++) {
            unit *= 10;
            due("judge(" + n + ", 0)", x.judge(n, 0), 0);
            due("judge(" + n + ", " + (unit - 1) + ")", x.judge(n, unit - 1), 0);
            for (int row : new int[] {MIN, -unit, -1, unit, unit + 1, 1000000, MAX}) {
                due("judge(" + n + ", " + row + ")", x.judge(n, row), OUTSIDE);
            }
        }
    }

    private static void judgedNoWedding() {
        sentence = "JUDGED: the first that can not be: there is none such (of fewer figures 0s are ahead: no WEDDING)";
        for (int many = 0; many <= 6; many++) {
            OneRing x = parishOf(SIX.substring(0, 8 + 6 * many));
            for (int figure = 0; figure <= 9; figure++) {
                due("judge(1, " + figure + ") of " + many, x.judge(1, figure), figure >= 1 && figure <= many ? NONE : 0);
            }
        }
        OneRing x = parishOf(SIX);
        due("judge(2, 1)", x.judge(2, 1), 0);
        due("judge(6, 12345)", x.judge(6, 12345), 0);
        due("judge(6, 100000)", x.judge(6, 100000), 1);
        due("judge(3, 120)", x.judge(3, 120), 2);
        due("judge(6, 123450)", x.judge(6, 123450), 5);
        due("judge(6, 123457)", x.judge(6, 123457), 5);
    }

    private static void judgedWed() {
        sentence = "JUDGED: the first that can not be: it is WED already";
        OneRing x = parishOf(SIX);
        due("judge(2, 33)", x.judge(2, 33), 1);
        due("judge(6, 123451)", x.judge(6, 123451), 5);
        due("judge(6, 112222)", x.judge(6, 112222), 1);
        x.wed(0);
        due("judge(1, 1)", x.judge(1, 1), 0);
        due("judge(5, 23456)", x.judge(5, 23456), NONE);
        due("judge(6, 234561)", x.judge(6, 234561), 5);
        x.undo();
        due("judge(1, 1)", x.judge(1, 1), NONE);
    }

    private static void judgedThatDoesNotHold() {
        sentence = "JUDGED: the first that can not be: it does not HOLD";
        OneRing x = parishOf("N9010000W00110W00010W00930W10930");
        due("judge(2, 21)", x.judge(2, 21), NONE);
        due("judge(2, 12)", x.judge(2, 12), 1);
        due("judge(3, 234): until 1, 4, 8", x.judge(3, 234), NONE);
        due("judge(4, 2134): until 9", x.judge(4, 2134), NONE);
        due("judge(4, 2143): until 1, 2, 6, 10", x.judge(4, 2143), 3);
    }

    private static void judgedOfSix() {
        sentence = "JUDGED: the place (from 0 on), of six; NONE: none";
        OneRing x = parishOf("N9000000W00010W01110W02210W03310W04410W05510");
        due("judge(6, 123456)", x.judge(6, 123456), NONE);
        due("judge(6, 123465)", x.judge(6, 123465), 5);
        due("judge(6, 123546)", x.judge(6, 123546), 4);
        due("judge(6, 124356)", x.judge(6, 124356), 3);
        due("judge(6, 132456)", x.judge(6, 132456), 2);
        due("judge(6, 213456)", x.judge(6, 213456), 1);
        x.linger();
        due("judge(6, 123456)", x.judge(6, 123456), 0);
    }

    // ---- later

    private static void laterUnknown() {
        sentence = "later: UNKNOWN";
        for (int n = 0; n <= 6; n++) {
            OneRing x = parishOf(SIX.substring(0, 8 + 6 * n));
            for (int w = 0; w < n; w++) {
                due("later(" + w + ") of " + n, x.later(w), 8);
            }
            for (int w : new int[] {MIN, -9, -1, n, n + 1, 32, MAX}) {
                due("later(" + w + ") of " + n, x.later(w), UNKNOWN);
            }
        }
    }

    private static void laterWed() {
        sentence = "later: STATE: it is WED";
        OneRing x = parishOf(SIX);
        x.wed(5);
        due("later(5)", x.later(5), STATE);
        due("later(4)", x.later(4), 8);
        x.undo();
        due("later(5)", x.later(5), 8);
    }

    private static void laterIs(String letters, int want) {
        due("later(0) of " + letters, parishOf(letters).later(0), want);
    }

    private static void laterFromNoneToTheLast() {
        sentence = "LATER: the last HOUR at which the RING may lie where it is (0 to 9); NONE";
        laterIs("N9000000W00010", 0);
        laterIs("N9000000W00110", 1);
        laterIs("N9000000W08810", 8);
        laterIs("N9000000W09910", NONE);
        laterIs("N9000000W00012", NONE);
        laterIs("N9010000W10010", NONE);
        laterIs("N9010000W10110", 0);
    }

    private static void laterByB() {
        sentence = "LATER: so that it BEGINS at b or earlier";
        laterIs("N9000000W03510", 5);
        laterIs("N9000000W03512", 4);
        laterIs("N9020000W13510", 3);
        laterIs("N9020000W13512", 2);
        laterIs("N9020000W10212", NONE);
    }

    private static void laterBySunset() {
        sentence = "LATER: so that it ends at SUNSET or earlier";
        laterIs("N9000000W00930", 6);
        laterIs("N9000000W00931", 6);
        laterIs("N9000000W00932", 5);
        laterIs("N9000000W00933", 7);
        laterIs("N9000000W00913", 8);
        laterIs("N1000000W00910", 0);
        laterIs("N1000000W00923", 0);
        laterIs("N1000000W00920", NONE);
    }

    private static void laterWhereItLies() {
        sentence = "LATER: at which the RING may lie where it is: whatever THE HOUR is now";
        OneRing x = parishOf("N9011111W00910");
        for (int hour = 0; hour <= 12; hour++) {
            due("later(0) at " + hour, x.later(0), 8);
            x.linger();
        }
        x.carry(5);
        due("later(0) in 5", x.later(0), 3);
    }

    // ---- see, unsee

    private static void seenChurches() {
        sentence = "see: UNKNOWN: church";
        OneRing x = new OneRing();
        for (int church : new int[] {MIN, -9, -1, 6, 7, 32, MAX}) {
            due("see(0, " + church + ")", x.see(0, church), UNKNOWN);
        }
        due("count(8)", x.count(8), 0);
        for (int church = 0; church <= 5; church++) {
            due("see(0, " + church + ")", x.see(0, church), church + 1);
        }
    }

    private static void seenWeddings() {
        sentence = "see: OUTSIDE: n (0 to 6)";
        OneRing x = new OneRing();
        for (int n : new int[] {MIN, -9, -1, 7, 8, MAX}) {
            due("see(" + n + ", 0)", x.see(n, 0), OUTSIDE);
        }
        due("count(8)", x.count(8), 0);
        due("see(0, 0)", x.see(0, 0), 1);
        due("see(6, 0)", x.see(6, 0), 2);
    }

    private static void seenFull() {
        sentence = "see: FULL: 6 (6 such at most, none at first)";
        OneRing x = new OneRing();
        due("count(8)", x.count(8), 0);
        for (int many = 1; many <= 6; many++) {
            due("see(1, 1)", x.see(1, 1), many);
            due("count(8)", x.count(8), many);
        }
        due("see(1, 1)", x.see(1, 1), FULL);
        due("see(0, 5)", x.see(0, 5), FULL);
        due("count(8)", x.count(8), 6);
        due("rows(0, 0): see(0, 5) was refused", x.rows(0, 0), 1);
    }

    private static void seenRefusalsInTurn() {
        sentence = "see: UNKNOWN before OUTSIDE before FULL";
        OneRing x = new OneRing();
        for (int many = 0; many <= 6; many++) {
            due("see(7, 6)", x.see(7, 6), UNKNOWN);
            due("see(-1, -1)", x.see(-1, -1), UNKNOWN);
            due("see(0, 6)", x.see(0, 6), UNKNOWN);
            due("see(7, 5)", x.see(7, 5), OUTSIDE);
            due("see(-1, 0)", x.see(-1, 0), OUTSIDE);
            due("see(6, 5)", x.see(6, 5), many < 6 ? many + 1 : FULL);
        }
    }

    private static void unseen() {
        sentence = "unsee: Nothing is SEEN: how much there was: 0 to 6";
        OneRing x = new OneRing();
        for (int many = 0; many <= 6; many++) {
            for (int i = 0; i < many; i++) {
                x.see(0, 5);
            }
            due("rows(0, 0) of " + many, x.rows(0, 0), many == 0 ? 1 : 0);
            due("unsee() of " + many, x.unsee(), many);
            due("count(8)", x.count(8), 0);
            due("rows(0, 0)", x.rows(0, 0), 1);
            due("unsee()", x.unsee(), 0);
        }
    }

    // ---- rows

    private static void rowsAre(OneRing x, int n, int many, int inAll, int inNone) {
        due("rows(" + n + ", 0)", x.rows(n, 0), many);
        due("rows(" + n + ", 1)", x.rows(n, 1), inAll);
        due("rows(" + n + ", 2)", x.rows(n, 2), inNone);
    }

    private static void rowsOfSoMany() {
        sentence = "rows: OUTSIDE: n (0 to 6)";
        OneRing x = parishOf(SIX);
        for (int n : new int[] {MIN, -9, -1, 7, 8, MAX}) {
            rowsAre(x, n, OUTSIDE, OUTSIDE, OUTSIDE);
        }
        rowsAre(x, 0, 1, 0, 63);
        rowsAre(x, 6, 720, 63, 0);
    }

    private static void rowsOfWhat() {
        sentence = "rows: OUTSIDE: what is 0 to 2";
        OneRing x = parishOf(SIX);
        for (int what : new int[] {MIN, -9, -1, 3, 4, MAX}) {
            for (int n : new int[] {-1, 0, 1, 6, 7}) {
                due("rows(" + n + ", " + what + ")", x.rows(n, what), OUTSIDE);
            }
        }
    }

    private static void rowsOfNoWedding() {
        sentence = "ROWS for 0: the ROW of none: it HOLDS";
        rowsAre(new OneRing(), 0, 1, 0, 0);
        rowsAre(parishOf(SIX.substring(0, 14)), 0, 1, 0, 1);
        rowsAre(parishOf("N1000000W09910"), 0, 1, 0, 1);
        rowsAre(waited(SIX, 20), 0, 1, 0, 63);
    }

    private static void rowsOfSix() {
        sentence = "ROWS of n WEDDINGS: how many: 720 at most; WEDDINGS (bits) in all, in none";
        OneRing x = parishOf(SIX);
        int[] wants = {1, 6, 30, 120, 360, 720, 720};
        for (int n = 0; n <= 6; n++) {
            rowsAre(x, n, wants[n], n == 6 ? 63 : 0, n == 0 ? 63 : 0);
        }
        x = parishOf("N9000000W05510W04410W03310W02210W01110W00010");
        rowsAre(x, 6, 1, 63, 0);
        x = parishOf("N9000000W00010W00010W00010W00010W00010W00910");
        rowsAre(x, 2, 5, 32, 0);
        x = parishOf("N9000000W09910W09910W09910W09910W09910W00910");
        rowsAre(x, 1, 1, 32, 31);
    }

    private static void rowsThereAreNone() {
        sentence = "NONE (of the latter two): there are none";
        rowsAre(new OneRing(), 1, 0, NONE, NONE);
        rowsAre(new OneRing(), 6, 0, NONE, NONE);
        OneRing x = parishOf(SIX.substring(0, 38));
        rowsAre(x, 5, 120, 31, 0);
        rowsAre(x, 6, 0, NONE, NONE);
        x = parishOf("N5" + SIX.substring(2));
        rowsAre(x, 5, 720, 0, 0);
        rowsAre(x, 6, 0, NONE, NONE);
    }

    private static void rowsOfThoseNotWed() {
        sentence = "in none (those that are WED, too)";
        OneRing x = parishOf(SIX);
        x.wed(5);
        rowsAre(x, 0, 1, 0, 63);
        rowsAre(x, 1, 5, 0, 32);
        rowsAre(x, 5, 120, 31, 32);
        rowsAre(x, 6, 0, NONE, NONE);
        for (int w = 0; w < 5; w++) {
            x.wed(w);
        }
        rowsAre(x, 0, 1, 0, 63);
        rowsAre(x, 1, 0, NONE, NONE);
    }

    private static void rowsBySeenOfNoMore() {
        sentence = "all that is SEEN of no more than n WEDDINGS is so";
        OneRing x = parishOf(APART);
        x.see(3, 5);
        rowsAre(x, 2, 30, 0, 0);
        rowsAre(x, 3, 20, 32, 0);
        rowsAre(x, 4, 60, 32, 0);
        x.see(2, 0);
        rowsAre(x, 1, 6, 0, 0);
        rowsAre(x, 2, 5, 1, 0);
        rowsAre(x, 3, 4, 33, 0);
    }

    private static void rowsBySeenOfNone() {
        sentence = "SEEN behind 0 WEDDINGS from how it stands when ROWS are asked (not when it was told)";
        OneRing x = parishOf(APART);
        x.see(0, 5);
        rowsAre(x, 0, 0, NONE, NONE);
        rowsAre(x, 6, 0, NONE, NONE);
        x.carry(5);
        rowsAre(x, 0, 1, 0, 63);
        rowsAre(x, 1, 6, 0, 0);
        x.wed(0);
        rowsAre(x, 0, 0, NONE, NONE);
        x.unsee();
        x.see(1, 1);
        rowsAre(x, 1, 1, 2, 61);
        x.wed(1);
        rowsAre(x, 1, 0, NONE, NONE);
    }

    private static void rowsBySeenOfSix() {
        sentence = "SEEN behind 6 WEDDINGS";
        OneRing x = parishOf(APART);
        x.see(6, 5);
        rowsAre(x, 5, 720, 0, 0);
        rowsAre(x, 6, 120, 63, 0);
        x.unsee();
        x.see(6, 0);
        rowsAre(x, 6, 120, 63, 0);
        x = parishOf(SIX);
        x.see(6, 1);
        rowsAre(x, 6, 0, NONE, NONE);
        rowsAre(x, 5, 720, 0, 0);
    }

    private static void rowsBySixSeen() {
        sentence = "SEEN: 6 such, all of them so";
        OneRing x = parishOf(APART);
        for (int n = 1; n <= 6; n++) {
            x.see(n, 6 - n);
        }
        rowsAre(x, 6, 1, 63, 0);
        rowsAre(x, 5, 1, 62, 1);
        rowsAre(x, 1, 1, 32, 31);
        rowsAre(x, 0, 1, 0, 63);
    }

    private static void rowsBySeenTwice() {
        sentence = "SEEN in two CHURCHES behind as many WEDDINGS: in no ROW; twice in one: as if once";
        OneRing x = parishOf(APART);
        x.see(2, 3);
        x.see(2, 3);
        rowsAre(x, 2, 5, 8, 0);
        x.see(2, 4);
        rowsAre(x, 2, 0, NONE, NONE);
        rowsAre(x, 1, 6, 0, 0);
    }

    // ---- all of them, as things are now

    /** Of two WEDDINGS: MOST, SLACK, MEND's how many, the last HOURS, how many ROWS of 2. */
    private static void asNow(OneRing x, int most, int first, int end, int slack, int mended, int later0, int later1) {
        mostIs(x, most, first, end);
        due("slack()", x.slack(), slack);
        due("mending(true)", x.mending(true), mended);
        due("later(0)", x.later(0), later0);
        due("later(1)", x.later(1), later1);
        due("rows(2, 0)", x.rows(2, 0), most == 2 ? 1 : 0);
        due("judge(1, 1)", x.judge(1, 1), most == 2 ? NONE : 0);
        due("judge(2, 12)", x.judge(2, 12), most == 2 ? NONE : 0);
        due("judge(2, 21)", x.judge(2, 21), 1);
    }

    private static void rowsAsThingsAreNow() {
        sentence = "A ROW HOLDS, if each does behind those ahead of it, from now on, as things are now";
        OneRing x = parishOf("N9022222W10110W20910");
        asNow(x, 1, 2, 5, 4, 2, NONE, 4);
        x.mend(0);
        asNow(x, 2, 12, 5, 0, 2, 0, 5);
        x.linger();
        asNow(x, 1, 2, 5, 4, 2, 0, 5);
        x.undo();
        x.carry(1);
        asNow(x, 2, 12, 5, 0, 2, 1, 6);
        x.carry(2);
        asNow(x, 1, 2, 4, 5, 1, NONE, 8);
        x.wed(1);
        due("judge(1, 2)", x.judge(1, 2), 0);
        mostIs(x, 0, 0, 4);
    }
}
