/** Promise by promise: ordinary calls, the document's edges, and wrong calls, with answers worked out by hand. */
public final class PromiseRuns {
    private static final int UNKNOWN = -1, OUTSIDE = -2, STATE = -3, FULL = -4, NONE = -9;
    private static final String NO_WEDDINGS = "N9011111";
    private static final int[] WRONG = {Integer.MIN_VALUE, -9, -1, 1000, Integer.MAX_VALUE};

    private static int wrong = 0;

    private static void due(String call, long got, long want) {
        if (got != want) {
            wrong++;
            System.out.println(call + " answered " + got + ", due is " + want);
        }
    }

    private static void type(OneRing x, String letters) {
        x.wipe();
        for (int i = 0; i < letters.length(); i++) {
            x.write(letters.charAt(i));
        }
    }

    private static OneRing parishOf(String letters) {
        OneRing x = new OneRing();
        type(x, letters);
        due("parish() of " + letters, x.parish(), (letters.length() - 8) / 6);
        return x;
    }

    public static void main(String[] args) {
        aNewObject();
        writing();
        wiping();
        faults();
        parishes();
        weddings();
        beginnings();
        roadsAndWays();
        weddingActs();
        carrying();
        lingering();
        mendingRoads();
        undoing();
        longestRows();
        slacks();
        whichRoadToMend();
        judging();
        latest();
        sights();
        rowsByWhatIsSeen();
        shares();
        rests();
        falls();
        seeds();
        summers();
        slots();
        counts();
        System.out.println(wrong == 0 ? "all answers are as due" : wrong + " answers are not as due");
        if (wrong != 0) {
            System.exit(1);
        }
    }

    private static void aNewObject() {
        OneRing x = new OneRing();
        int[] wants = {0, 0, 9, 0, 0, 0, 0, 0, 0};
        for (int what = 0; what < wants.length; what++) {
            due("1: count(" + what + ")", x.count(what), wants[what]);
        }
        for (int r = 0; r < 5; r++) {
            due("1: road", x.road(r), 1);
        }
        due("1: wedding", x.wedding(0, 0), UNKNOWN);
        due("1: fault", x.fault(), 0);
        due("1: undo", x.undo(), STATE);
        due("1: again", x.again(1), STATE);
        due("1: unsee", x.unsee(), 0);
        due("1: seed", x.seed(1), 0);
    }

    private static void writing() {
        OneRing x = new OneRing();
        due("2: write(0)", x.write(0), 1);
        due("2: write(255)", x.write(255), 2);
        due("2: write(256)", x.write(256), OUTSIDE);
        for (int letter : new int[] {-1, Integer.MIN_VALUE, Integer.MAX_VALUE}) {
            due("2: write", x.write(letter), OUTSIDE);
        }
        for (int i = 3; i <= 48; i++) {
            due("2: write", x.write('N'), i);
        }
        due("2: write, full", x.write('N'), FULL);
        due("2: write, full and outside", x.write(256), OUTSIDE);
        due("2: count(0)", x.count(0), 48);
    }

    private static void wiping() {
        OneRing x = new OneRing();
        due("3: wipe", x.wipe(), 0);
        type(x, "N90");
        due("3: wipe", x.wipe(), 3);
        due("3: wipe", x.wipe(), 0);
        due("3: write", x.write('N'), 1);
        type(x, "N9011111W00910");
        due("3: wipe", x.wipe(), 14);
        type(x, "N9011111");
        due("3: nothing is left of it", x.parish(), 0);
    }

    private static void faultOf(String letters, int want) {
        OneRing x = new OneRing();
        type(x, letters);
        due("4: fault() of " + letters, x.fault(), want);
        due("5: parish() of " + letters, x.parish(), want == NONE ? (letters.length() - 8) / 6 : STATE);
        due("5: count(0)", x.count(0), letters.length());
    }

    private static void faults() {
        String whole = "N9533333W50913W59933";
        for (int n = 0; n <= whole.length(); n++) {
            faultOf(whole.substring(0, n), n == 8 || n == 14 || n == 20 ? NONE : n);
        }
        String[] bad = {"n", "N:", "N0", "N/", "N96", "N9/", "N904", "N90/", "N9000004", "N9000000w", "N9000000W6",
            "N9000000W0:", "N9000000W0/", "N9000000W054", "N9000000W01:", "N9000000W0550", "N9000000W0554",
            "N9000000W05514", "N9000000W0551/"};
        for (String letters : bad) {
            faultOf(letters, letters.length() - 1);
            faultOf(letters + "N9011111", letters.length() - 1);
        }
        faultOf("N1000000W00010", NONE);
        faultOf("N9000000W05510", NONE);
        faultOf("N9000000W05530", NONE);
        String six = NO_WEDDINGS + "W00010W00010W00010W00010W00010W00010";
        faultOf(six, NONE);
        faultOf(six + "W", 44);
        faultOf(six + "W000", 44);
        faultOf(six + "xyz", 44);
    }

    private static void parishes() {
        OneRing x = parishOf("N8312030W31512");
        int[] wants = {14, 1, 8, 0, 3, 0, 1, 0, 0};
        for (int what = 0; what < wants.length; what++) {
            due("5: count(" + what + ")", x.count(what), wants[what]);
        }
        int[] roads = {1, 2, 0, 3, 0};
        for (int r = 0; r < 5; r++) {
            due("5: road", x.road(r), roads[r]);
        }
        x.seed(77);
        x.see(1, 3);
        x.linger();
        x.wed(0);
        x.keep(1);
        x.write('X');
        due("5: parish() of a fault", x.parish(), STATE);
        due("5: all as it was", x.count(7), 2);
        due("5: all as it was", x.count(5), 1);
        due("5: all as it was", x.again(1), 3);
        type(x, "N9011111W00910W00910");
        due("5: the old parish is there until it is made anew", x.count(1), 1);
        due("5: parish()", x.parish(), 2);
        due("5: the text stays", x.count(0), 20);
        due("5: the hour", x.count(3), 0);
        due("5: nobody is wed", x.count(5), 0);
        due("5: the row of acts", x.count(7), 0);
        due("5: the ring", x.count(4), 0);
        due("5: what was seen stays", x.count(8), 1);
        due("5: what was kept is gone", x.again(1), STATE);
        due("5: the seed stays", x.seed(0), 77);
        x.mend(2);
        due("5: made once more", x.parish(), 2);
        due("5: roads are as told", x.road(2), 1);
        due("5: undo", x.undo(), STATE);
    }

    private static void weddings() {
        OneRing x = parishOf("N9211111W31532W00021W53913");
        int[][] figures = {{3, 1, 5, 3, 2}, {0, 0, 0, 2, 1}, {5, 3, 9, 1, 3}};
        for (int w = 0; w < 3; w++) {
            for (int what = 0; what < 5; what++) {
                due("6: wedding", x.wedding(w, what), figures[w][what]);
            }
            due("6: wedding, wed", x.wedding(w, 5), 0);
        }
        due("6: late: a way of 1 and 1 more", x.wedding(0, 6), 2);
        due("6: too late", x.wedding(1, 6), NONE);
        due("6: just then", x.wedding(2, 6), 3);
        x.wed(0);
        due("6: wed", x.wedding(0, 5), 1);
        due("6: wed", x.wedding(0, 6), NONE);
        due("6: wedding(3, 0)", x.wedding(3, 0), UNKNOWN);
        due("6: wedding(3, 7)", x.wedding(3, 7), UNKNOWN);
        for (int number : WRONG) {
            due("6: wedding", x.wedding(number, 0), UNKNOWN);
            due("6: wedding", x.wedding(0, number), OUTSIDE);
        }
        due("6: wedding(0, 7)", x.wedding(0, 7), OUTSIDE);
    }

    /** The hour when a wedding begins, and when the ring is free: in parishes of one wedding in the ring's church. */
    private static void begins(String letters, int begin, int free) {
        OneRing x = parishOf(letters);
        due("6: begins, in " + letters, x.wedding(0, 6), begin);
        due("9: wed, in " + letters, x.wed(0), begin == NONE ? STATE : free);
    }

    private static void beginnings() {
        begins("N9011111W00930", 0, 3);
        begins("N9011111W04930", 4, 7);
        begins("N9011111W50510", 5, 6);
        begins("N9011111W50410", NONE, 0);
        begins("N9011111W50512", NONE, 0);
        begins("N9011111W50612", 6, 7);
        begins("N9000000W00032", NONE, 0);
        begins("N9000000W00132", 1, 4);
        begins("N9000000W03332", 3, 6);
        begins("N9000000W06630", 6, 9);
        begins("N9000000W07730", NONE, 0);
        begins("N9000000W07733", 7, 9);
        begins("N9000000W08813", 8, 9);
        begins("N9000000W08823", 8, 9);
        begins("N9000000W09913", NONE, 0);
        begins("N9000000W08811", 8, 10);
        begins("N9000000W00031", 0, 4);
        begins("N1000000W00010", 0, 1);
        begins("N1000000W00020", NONE, 0);
        begins("N1000000W00023", 0, 1);
        begins("N1000000W00033", NONE, 0);
    }

    private static void roadsAndWays() {
        OneRing x = parishOf("N9012301");
        int[] roads = {1, 2, 3, 0, 1};
        for (int r = 0; r < 5; r++) {
            due("7: road", x.road(r), roads[r]);
        }
        due("7: road(5)", x.road(5), UNKNOWN);
        due("8: way(1, 3)", x.way(1, 3), 5);
        due("8: way(3, 1)", x.way(3, 1), 5);
        due("8: way(3, 4)", x.way(3, 4), 0);
        due("8: way(0, 5)", x.way(0, 5), 7);
        due("8: way(2, 2)", x.way(2, 2), 0);
        for (int number : WRONG) {
            due("7: road", x.road(number), UNKNOWN);
            due("8: way", x.way(number, 0), UNKNOWN);
            due("8: way", x.way(0, number), UNKNOWN);
        }
        due("8: way(6, 0)", x.way(6, 0), UNKNOWN);
        due("8: way(0, 6)", x.way(0, 6), UNKNOWN);
        x.mend(2);
        due("7: road(2), mended", x.road(2), 2);
        due("8: way(0, 5), mended", x.way(0, 5), 6);
    }

    private static void weddingActs() {
        OneRing x = parishOf("N9011111W21921W20910W02210");
        due("9: wed(0)", x.wed(0), 5);
        due("9: the ring", x.count(4), 2);
        due("9: who is wed", x.count(5), 1);
        due("9: acts", x.count(7), 1);
        due("9: wed already", x.wed(0), STATE);
        due("9: does not hold", x.wed(2), STATE);
        due("9: wed(3)", x.wed(3), UNKNOWN);
        for (int number : WRONG) {
            due("9: wed", x.wed(number), UNKNOWN);
        }
        due("9: nothing has changed", x.count(7), 1);
        due("9: wed(1)", x.wed(1), 6);
        due("9: who is wed", x.count(5), 3);
    }

    private static void carrying() {
        OneRing x = parishOf("N9212030");
        due("10: carry(2)", x.carry(2), STATE);
        due("10: carry(6)", x.carry(6), UNKNOWN);
        for (int number : WRONG) {
            due("10: carry", x.carry(number), UNKNOWN);
        }
        due("10: carry(3)", x.carry(3), 0);
        due("10: carry(0)", x.carry(0), 3);
        due("10: carry(5)", x.carry(5), 9);
        due("10: after sunset", x.carry(0), 15);
        due("10: the ring", x.count(4), 0);
        due("10: acts", x.count(7), 4);
    }

    private static void lingering() {
        OneRing x = new OneRing();
        for (int h = 1; h <= 20; h++) {
            due("11: linger", x.linger(), h);
        }
        due("11: the hour", x.count(3), 20);
        due("11: acts", x.count(7), 14);
    }

    private static void mendingRoads() {
        OneRing x = parishOf("N9030000");
        due("12: mend(0)", x.mend(0), 2);
        due("12: mend(0)", x.mend(0), 1);
        due("12: mend(0)", x.mend(0), 0);
        due("12: mend(0)", x.mend(0), STATE);
        due("12: mend(1)", x.mend(1), STATE);
        due("12: mend(5)", x.mend(5), UNKNOWN);
        for (int number : WRONG) {
            due("12: mend", x.mend(number), UNKNOWN);
        }
        due("12: acts", x.count(7), 3);
        due("12: no hour goes by", x.count(3), 0);
    }

    private static void undoing() {
        OneRing x = parishOf("N9011111W21921");
        due("13: undo", x.undo(), STATE);
        x.mend(0);
        x.wed(0);
        x.carry(5);
        x.linger();
        due("13: the hour", x.count(3), 8);
        due("13: undo", x.undo(), 3);
        due("13: the hour", x.count(3), 7);
        due("13: undo", x.undo(), 2);
        due("13: the ring", x.count(4), 2);
        due("13: the hour", x.count(3), 4);
        due("13: undo", x.undo(), 1);
        due("13: nobody is wed", x.count(5), 0);
        due("13: the ring", x.count(4), 0);
        due("13: the hour", x.count(3), 0);
        due("13: the road is mended still", x.road(0), 0);
        due("13: undo", x.undo(), 0);
        due("13: road", x.road(0), 1);
        due("13: undo", x.undo(), STATE);
        for (int h = 1; h <= 17; h++) {
            x.linger();
        }
        for (int left = 13; left >= 0; left--) {
            due("13: undo of many", x.undo(), left);
        }
        due("13: undo of many", x.undo(), STATE);
        due("13: three are forgotten", x.count(3), 3);
    }

    private static void longestRows() {
        OneRing x = parishOf("N5000000W10020W20320W10910");
        due("14: most(0)", x.most(0), 3);
        due("14: most(1)", x.most(1), 123);
        due("14: most(2)", x.most(2), 5);
        x = parishOf("N9000000W10810W20030W33310");
        due("14: most(1)", x.most(1), 231);
        due("14: most(2)", x.most(2), 5);
        x = parishOf("N9000000W01131W01130W01133");
        due("14: most(0)", x.most(0), 1);
        due("14: most(1)", x.most(1), 1);
        due("14: most(2): the third one's end", x.most(2), 3);
        x.wed(2);
        due("14: none holds", x.most(0), 0);
        due("14: none holds", x.most(1), 0);
        due("14: none holds: the hour now", x.most(2), 3);
        x = parishOf("N9000000W00910W00910W00910W00910W00910W00910");
        due("14: most(1)", x.most(1), 123456);
        x.wed(3);
        due("14: those that are wed are none", x.most(1), 12356);
        due("14: most(2)", x.most(2), 6);
        due("14: most(3)", x.most(3), OUTSIDE);
        for (int number : WRONG) {
            due("14: most", x.most(number), OUTSIDE);
        }
    }

    private static void slacks() {
        OneRing x = parishOf("N9011111W12310");
        due("15: slack", x.slack(), 2);
        x.linger();
        due("15: slack", x.slack(), 1);
        x.linger();
        x.linger();
        due("15: there is none to lose", x.slack(), 9);
        due("15: nothing has changed", x.count(3), 3);
        due("15: no weddings", new OneRing().slack(), 9);
        due("15: to the last hour", parishOf("N9000000W00910").slack(), 8);
        due("15: one less is less", parishOf("N9000000W00910W03310").slack(), 3);
    }

    private static void mendingOf(String letters, int which, int many) {
        OneRing x = parishOf(letters);
        due("16: mending(false) in " + letters, x.mending(false), which);
        due("16: mending(true) in " + letters, x.mending(true), many);
    }

    private static void whichRoadToMend() {
        mendingOf(NO_WEDDINGS, 0, 0);
        mendingOf("N9000000", NONE, NONE);
        mendingOf("N9000000W00910", NONE, NONE);
        mendingOf("N9000010", 3, 0);
        mendingOf("N9011111W30210", 0, 1);
        mendingOf("N9301111W40010", 3, 1);
        mendingOf("N9000111W40210", 2, 1);
        mendingOf("N9011111W00910", 0, 1);
        OneRing x = parishOf("N9010000");
        x.mend(0);
        due("16: mended ones", x.mending(false), NONE);
        due("16: nothing has changed", x.road(0), 0);
    }

    private static void judging() {
        OneRing x = parishOf("N9011111W10910W00010W20510");
        due("17: judge(1, 1)", x.judge(1, 1), NONE);
        due("17: judge(2, 13)", x.judge(2, 13), NONE);
        due("17: judge(2, 21)", x.judge(2, 21), NONE);
        due("17: does not hold then", x.judge(2, 12), 1);
        due("17: twice", x.judge(3, 131), 2);
        due("17: there is none such", x.judge(2, 14), 1);
        due("17: there is none such", x.judge(2, 91), 0);
        due("17: 0s ahead", x.judge(2, 1), 0);
        due("17: 0s ahead", x.judge(6, 213), 0);
        due("17: a 0", x.judge(3, 103), 1);
        due("17: nothing at all", x.judge(6, 0), 0);
        due("17: of six", x.judge(6, 213999), 3);
        due("17: too many figures", x.judge(1, 10), OUTSIDE);
        due("17: too many figures", x.judge(6, 1000000), OUTSIDE);
        due("17: judge(2, 99)", x.judge(2, 99), 0);
        due("17: judge(7, 1)", x.judge(7, 1), OUTSIDE);
        due("17: judge(0, 0)", x.judge(0, 0), OUTSIDE);
        for (int number : WRONG) {
            due("17: judge", x.judge(number, 1), OUTSIDE);
            due("17: judge", x.judge(2, number), OUTSIDE);
        }
        x.wed(0);
        due("17: wed already", x.judge(2, 31), 1);
        due("17: nothing has changed", x.count(5), 1);
    }

    private static void latest() {
        OneRing x = parishOf("N9011111W20510W20512W00920W50410W09910W00910");
        due("18: later(0)", x.later(0), 3);
        due("18: late", x.later(1), 2);
        due("18: by the sunset", x.later(2), 7);
        due("18: never", x.later(3), NONE);
        due("18: never", x.later(4), NONE);
        due("18: later(5)", x.later(5), 8);
        due("18: later(6)", x.later(6), UNKNOWN);
        for (int number : WRONG) {
            due("18: later", x.later(number), UNKNOWN);
        }
        x.wed(5);
        due("18: wed", x.later(5), STATE);
        x.carry(2);
        x.linger();
        x.linger();
        x.linger();
        due("18: whatever the hour is now", x.later(0), 5);
    }

    private static void sights() {
        OneRing x = new OneRing();
        due("19: see(7, 0)", x.see(7, 0), OUTSIDE);
        due("19: see(0, 6)", x.see(0, 6), UNKNOWN);
        due("19: see(7, 6): church first", x.see(7, 6), UNKNOWN);
        for (int number : WRONG) {
            due("19: see", x.see(number, 0), OUTSIDE);
            due("19: see", x.see(0, number), UNKNOWN);
        }
        for (int i = 1; i <= 6; i++) {
            due("19: see", x.see(6, 5), i);
        }
        due("19: full", x.see(6, 5), FULL);
        due("19: full, outside", x.see(7, 5), OUTSIDE);
        due("19: full, unknown", x.see(0, 6), UNKNOWN);
        due("19: count(8)", x.count(8), 6);
        due("20: unsee", x.unsee(), 6);
        due("20: unsee", x.unsee(), 0);
        due("20: count(8)", x.count(8), 0);
        due("19: see", x.see(0, 0), 1);
        due("19: no act", x.count(7), 0);
    }

    private static void rowsByWhatIsSeen() {
        OneRing x = parishOf("N9000000W10910W20910W00010");
        due("21: rows(0, 0)", x.rows(0, 0), 1);
        due("21: rows(0, 1)", x.rows(0, 1), 0);
        due("21: rows(0, 2)", x.rows(0, 2), 7);
        due("21: rows(1, 0)", x.rows(1, 0), 3);
        due("21: rows(1, 1)", x.rows(1, 1), 0);
        due("21: rows(1, 2)", x.rows(1, 2), 0);
        due("21: rows(2, 0): 12, 21, 31, 32", x.rows(2, 0), 4);
        due("21: rows(3, 0): 312, 321", x.rows(3, 0), 2);
        due("21: rows(3, 1)", x.rows(3, 1), 7);
        due("21: rows(4, 0)", x.rows(4, 0), 0);
        due("21: rows(4, 1)", x.rows(4, 1), NONE);
        due("21: rows(4, 2)", x.rows(4, 2), NONE);
        x.see(2, 2);
        due("21: behind more than that", x.rows(1, 0), 3);
        due("21: rows(2, 0): 12, 32", x.rows(2, 0), 2);
        due("21: rows(2, 1)", x.rows(2, 1), 2);
        due("21: rows(2, 2)", x.rows(2, 2), 0);
        due("21: rows(3, 0): 321", x.rows(3, 0), 1);
        x.see(1, 1);
        due("21: rows(3, 0)", x.rows(3, 0), 0);
        due("21: rows(2, 0): 12", x.rows(2, 0), 1);
        due("21: rows(2, 2)", x.rows(2, 2), 4);
        x.wed(0);
        due("21: wed ones are in none", x.rows(1, 0), 0);
        x.unsee();
        due("21: wed ones are in none", x.rows(1, 1), 2);
        due("21: wed ones are in none", x.rows(1, 2), 5);
        x.see(0, 0);
        due("21: it lies elsewhere now", x.rows(0, 0), 0);
        due("21: it lies elsewhere now", x.rows(0, 2), NONE);
        x.carry(0);
        due("21: from how it stands when asked", x.rows(0, 0), 1);
        due("21: twice the same", x.see(0, 0), 2);
        due("21: twice the same", x.rows(0, 0), 1);
        x.see(0, 1);
        due("21: in two churches at once", x.rows(0, 0), 0);
        x.see(0, 0);
        due("21: in two churches at once", x.rows(0, 0), 0);
        due("21: rows(7, 0)", x.rows(7, 0), OUTSIDE);
        due("21: rows(0, 3)", x.rows(0, 3), OUTSIDE);
        for (int number : WRONG) {
            due("21: rows", x.rows(number, 0), OUTSIDE);
            due("21: rows", x.rows(0, number), OUTSIDE);
        }
    }

    private static void sharesAre(OneRing x, int wedding, int above, int below) {
        due("22: share(" + wedding + ", true)", x.share(wedding, true), above);
        due("22: share(" + wedding + ", false)", x.share(wedding, false), below);
    }

    private static void shares() {
        OneRing x = parishOf("N9000000W00010W00010W00010");
        sharesAre(x, 0, 1, 3);
        x = parishOf("N9000000W00010W00010W05510W15510W09910");
        sharesAre(x, 0, 1, 2);
        sharesAre(x, 2, 1, 2);
        sharesAre(x, 4, 0, 1);
        x.wed(1);
        sharesAre(x, 1, 0, 1);
        sharesAre(x, 0, 0, 1);
        sharesAre(x, 3, 1, 2);
        x = parishOf("N9000000W00010W00020W01110");
        // the third one goes with the first alone: it brings nothing just behind the second one
        sharesAre(x, 2, 5, 6);
        sharesAre(x, 0, 5, 6);
        sharesAre(x, 1, 1, 3);
        due("22: share(3, true)", x.share(3, true), UNKNOWN);
        for (int number : WRONG) {
            due("22: share", x.share(number, false), UNKNOWN);
        }
    }

    private static void restsAre(String letters, int one, int other, int many, int first) {
        OneRing x = parishOf(letters);
        due("23: rests(.., 0) in " + letters, x.rests(one, other, 0), many);
        due("23: rests(.., 1) in " + letters, x.rests(one, other, 1), first);
    }

    private static void rests() {
        // 4 for the next one, 3 for the other one: it may ask, at no gain, or let it be
        restsAre("N9000000W00910W00910", 0, 1, 2, 0);
        restsAre("N9000000W00910W00910", 1, 0, 2, 0);
        // the second one holds only if it is next, so it asks; then the first one would ask; then asking is idle
        restsAre("N9000000W00930W01110", 0, 1, 0, NONE);
        restsAre("N9000000W00930W01110", 1, 0, 0, NONE);
        // the second one holds only if it is next, and the first one loses nothing by that
        restsAre("N9000000W03920W00010", 0, 1, 1, 1);
        restsAre("N9000000W03920W00010", 1, 0, 1, 10);
        restsAre("N9000000W09910W09910", 0, 1, 1, 0);
        OneRing x = parishOf("N9000000W00910W00910W00910");
        x.linger();
        due("23: later than now", x.rests(0, 1, 0), 2);
        OneRing y = parishOf("N9000000W00930W00930");
        for (int h = 0; h < 3; h++) {
            due("23: 4 if next, else 1", y.rests(0, 1, 1), NONE);
            y.linger();
        }
        due("23: 4 if next, else 1, not told from hour 0", y.rests(0, 1, 1), NONE);
        due("23: rests(0, 3, 0)", x.rests(0, 3, 0), UNKNOWN);
        due("23: rests(3, 0, 2)", x.rests(3, 0, 2), UNKNOWN);
        due("23: rests(3, 3, 0)", x.rests(3, 3, 0), UNKNOWN);
        due("23: rests(1, 1, 0)", x.rests(1, 1, 0), OUTSIDE);
        due("23: rests(0, 1, 2)", x.rests(0, 1, 2), OUTSIDE);
        for (int number : WRONG) {
            due("23: rests", x.rests(number, 0, 0), UNKNOWN);
            due("23: rests", x.rests(0, number, 0), UNKNOWN);
            due("23: rests", x.rests(0, 1, number), OUTSIDE);
        }
        x.wed(2);
        due("23: wed", x.rests(2, 0, 0), STATE);
        due("23: wed", x.rests(0, 2, 0), STATE);
        due("23: wed and one", x.rests(2, 2, 0), OUTSIDE);
        due("23: wed and outside", x.rests(2, 0, -1), OUTSIDE);
    }

    private static void fallsAre(OneRing x, int n, int row, int tenths, int above, int below) {
        due("24: falls(" + n + ", " + row + ", " + tenths + ", true)", x.falls(n, row, tenths, true), above);
        due("24: falls(" + n + ", " + row + ", " + tenths + ", false)", x.falls(n, row, tenths, false), below);
    }

    private static void falls() {
        OneRing x = parishOf("N9010101W10110W10910W20310W30410");
        fallsAre(x, 1, 1, 3, 7, 10);
        fallsAre(x, 1, 1, 0, 1, 1);
        fallsAre(x, 1, 1, 10, 0, 1);
        fallsAre(x, 1, 2, 10, 1, 1);
        fallsAre(x, 2, 12, 5, 1, 2);
        fallsAre(x, 3, 123, 4, 3, 5);
        // two ways of 1 and one of none: in time, if there is no fall on either
        fallsAre(x, 3, 234, 5, 1, 4);
        fallsAre(x, 3, 124, 3, 49, 100);
        fallsAre(x, 4, 1234, 0, 0, 1);
        x = parishOf("N9000000W00010W50110");
        fallsAre(x, 2, 12, 10, 1, 1);
        x = parishOf("N9010000W10111W10910");
        fallsAre(x, 1, 2, 7, 1, 1);
        due("24: no fall on the spot", x.falls(2, 12, 9, false), 10);
        x = parishOf("N9010000W10212");
        fallsAre(x, 1, 1, 4, 3, 5);
        due("24: no wedding", x.falls(1, 2, 4, true), STATE);
        due("24: a 0", x.falls(2, 1, 4, true), STATE);
        due("24: twice", x.falls(2, 11, 4, true), STATE);
        due("24: a 9", x.falls(1, 9, 4, true), STATE);
        due("24: falls(0, 0, 4, true)", x.falls(0, 0, 4, true), OUTSIDE);
        due("24: falls(7, 1, 4, true)", x.falls(7, 1, 4, true), OUTSIDE);
        due("24: falls(1, 10, 4, true)", x.falls(1, 10, 4, true), OUTSIDE);
        due("24: falls(1, 1, 11, true)", x.falls(1, 1, 11, true), OUTSIDE);
        due("24: falls(1, 2, 11, true)", x.falls(1, 2, 11, true), OUTSIDE);
        for (int number : WRONG) {
            due("24: falls", x.falls(number, 1, 4, true), OUTSIDE);
            due("24: falls", x.falls(1, number, 4, true), OUTSIDE);
            due("24: falls", x.falls(1, 1, number, true), OUTSIDE);
        }
        x.wed(0);
        due("24: wed", x.falls(1, 1, 4, true), STATE);
    }

    private static void seeds() {
        OneRing x = new OneRing();
        due("25: seed", x.seed(Long.MIN_VALUE), 0);
        due("25: seed", x.seed(-1), Long.MIN_VALUE);
        due("25: seed", x.seed(5), -1);
    }

    private static long next(long v) {
        return v * 6364136223846793005L + 1442695040888963407L;
    }

    /** The least seed from 0 on that brings these events next. */
    private static long seedFor(int... events) {
        for (long v = 0; v < 1000000; v++) {
            long x = v;
            boolean so = true;
            for (int i = 0; i < events.length && so; i++) {
                x = next(x);
                so = (x >>> 33) % 8 == events[i];
            }
            if (so) {
                return v;
            }
        }
        throw new IllegalStateException("no such seed");
    }

    private static void summersAre(OneRing x, int want, int... events) {
        x.seed(seedFor(events));
        due("26: summers of events " + java.util.Arrays.toString(events), x.summers(events.length), want);
    }

    private static void summers() {
        OneRing x = parishOf("N9000000W00910W00010W20010W20010W00010W30910");
        for (int event = 0; event < 8; event++) {
            long v = seedFor(event);
            x.seed(v);
            due("26: summers(1), event " + event, x.summers(1), event < 6 ? 1 : 0);
            due("26: the seed", x.seed(0), next(v));
        }
        due("26: nothing but the seed has changed", x.count(3) + x.count(4) + x.count(5) + x.count(7), 0);
        summersAre(x, 1, 6, 0);
        summersAre(x, 0, 6, 1, 1);
        summersAre(x, 1, 0, 0);
        summersAre(x, 2, 0, 7, 0);
        summersAre(x, 1, 0, 1);
        summersAre(x, 2, 0, 7, 1);
        summersAre(x, 0, 7, 6, 7);
        x.wed(0);
        summersAre(x, 0, 0);
        summersAre(x, 0, 1);
        summersAre(x, 1, 7, 0);
        x = parishOf("N9011111W50910W50010");
        summersAre(x, 0, 2);
        summersAre(x, 0, 7, 1);
        summersAre(x, 2, 0, 7, 1);
        x.mend(4);
        summersAre(x, 2, 0, 7, 1);
        x.seed(9);
        due("26: summers(0)", x.summers(0), OUTSIDE);
        due("26: summers(31)", x.summers(31), OUTSIDE);
        for (int number : WRONG) {
            due("26: summers", x.summers(number), OUTSIDE);
        }
        due("26: refused ones change nothing", x.seed(9), 9);
        int once = x.summers(30);
        long then = x.seed(9);
        due("26: the same again", x.summers(30), once);
        due("26: the same again", x.seed(0), then);
    }

    private static void slots() {
        OneRing x = parishOf("N9011111W20910");
        due("28: nothing kept", x.again(0), STATE);
        due("27: keep(0)", x.keep(0), 0);
        x.wed(0);
        x.mend(4);
        due("27: keep(1)", x.keep(1), 3);
        due("27: keeping is no act", x.count(7), 2);
        x.carry(5);
        x.linger();
        x.mend(3);
        due("28: again(1)", x.again(1), 3);
        due("28: the ring", x.count(4), 2);
        due("28: who is wed", x.count(5), 1);
        due("28: roads", x.road(4), 0);
        due("28: roads", x.road(3), 1);
        due("28: acts", x.count(7), 0);
        due("28: undo", x.undo(), STATE);
        x.linger();
        due("28: again(0)", x.again(0), 0);
        due("28: the ring", x.count(4), 0);
        due("28: nobody is wed", x.count(5), 0);
        due("28: roads", x.road(4), 1);
        x.linger();
        due("27: kept over it", x.keep(1), 1);
        due("28: kept over it", x.again(1), 1);
        due("28: kept over it", x.count(5), 0);
        due("27: keep(2)", x.keep(2), UNKNOWN);
        due("28: again(2)", x.again(2), UNKNOWN);
        for (int number : WRONG) {
            due("27: keep", x.keep(number), UNKNOWN);
            due("28: again", x.again(number), UNKNOWN);
        }
    }

    private static void counts() {
        OneRing x = parishOf("N7311111W30910W31110W02310");
        x.see(1, 1);
        x.linger();
        int[] wants = {26, 3, 7, 1, 3, 0, 3, 1, 1};
        for (int what = 0; what < wants.length; what++) {
            due("29: count(" + what + ")", x.count(what), wants[what]);
        }
        x.wed(0);
        due("29: who is wed", x.count(5), 1);
        due("29: who would hold", x.count(6), 0);
        x.undo();
        x.wed(1);
        due("29: who is wed", x.count(5), 2);
        due("29: who would hold", x.count(6), 1);
        due("29: count(9)", x.count(9), OUTSIDE);
        for (int number : WRONG) {
            due("29: count", x.count(number), OUTSIDE);
        }
    }
}
