import java.math.BigInteger;

/** The document's boundary sentences about shares, rests, falls, summers, slots and counts (promises 22 to 29), one by one. */
public final class BoundaryChances {
    private static final int UNKNOWN = -1, OUTSIDE = -2, STATE = -3, NONE = -9;
    private static final int MIN = Integer.MIN_VALUE, MAX = Integer.MAX_VALUE;
    private static final String SIX = "N9000000W00910W00910W00910W00910W00910W00910";
    private static final String ONE_OF_SIX = "N9000000W00010W00010W00010W00010W00010W00010";

    private static int wrong = 0;
    private static String sentence = "";

    public static void main(String[] args) {
        shareUnknown();
        shareOfAWedOne();
        shareOfOneAlone();
        shareBesideNone();
        shareInLeastTerms();
        shareOfThoseNotWed();
        shareAsThingsAreNow();
        restsUnknown();
        restsOutside();
        restsOfAWedOne();
        restsRefusalsInTurn();
        restsHowMany();
        restsOfTheLesserNumber();
        restsOfThoseThatDoNotHold();
        restsByHoursLater();
        restsNoLessThanNone();
        restsFromNow();
        restsAsThingsAreNow();
        fallsOfSoMany();
        fallsOfFigures();
        fallsByTenths();
        fallsOfNoRow();
        fallsRefusalsInTurn();
        fallsNeverAndAlways();
        fallsOnWays();
        fallsOneHour();
        fallsOfManyWays();
        fallsOfARowThatDoesNotHold();
        fallsAsThingsAreNow();
        seedsToTheirEnds();
        summersOfSoMany();
        summersRefused();
        seedsWrap();
        summersOneByOne();
        summersWed();
        summersWaited();
        summersNewDay();
        summersFromNow();
        summersChangeTheSeedAlone();
        slotsThereAre();
        slotsOfNone();
        slotsOfTwo();
        slotsKeepAll();
        slotsLeaveAllElse();
        slotsAndActs();
        countsThereAre();
        countsOfNone();
        countsOfAll();
        System.out.println(wrong == 0 ? "all answers are as due" : wrong + " answers are not as due");
        if (wrong != 0) {
            System.exit(1);
        }
    }

    private static void due(String call, long got, long want) {
        if (got != want) {
            wrong++;
            System.out.println(sentence + ": " + call + " answered " + got + ", due is " + want);
        }
    }

    private static OneRing parishOf(String letters) {
        OneRing x = new OneRing();
        type(x, letters);
        due("parish() of " + letters, x.parish(), (letters.length() - 8) / 6);
        return x;
    }

    private static void type(OneRing x, String letters) {
        x.wipe();
        for (int i = 0; i < letters.length(); i++) {
            x.write(letters.charAt(i));
        }
    }

    // ---- share

    private static void shareIs(OneRing x, int wedding, int above, int below) {
        due("share(" + wedding + ", true)", x.share(wedding, true), above);
        due("share(" + wedding + ", false)", x.share(wedding, false), below);
    }

    private static void shareUnknown() {
        sentence = "share: UNKNOWN (FRACTIONS: refusals of them are told likewise)";
        for (int n = 0; n <= 6; n++) {
            OneRing x = parishOf(SIX.substring(0, 8 + 6 * n));
            for (int w = 0; w < n; w++) {
                shareIs(x, w, 1, 1);
            }
            for (int w : new int[] {MIN, -9, -1, n, n + 1, 32, MAX}) {
                shareIs(x, w, UNKNOWN, UNKNOWN);
            }
        }
    }

    private static void shareOfAWedOne() {
        sentence = "SHARE: 0, if it is WED (below: 1)";
        OneRing x = parishOf(SIX);
        for (int w = 0; w < 6; w++) {
            shareIs(x, w, 1, 1);
            x.wed(w);
            shareIs(x, w, 0, 1);
        }
        x.undo();
        shareIs(x, 5, 1, 1);
    }

    private static void shareOfOneAlone() {
        sentence = "SHARE of one alone: 1 or 0";
        shareIs(parishOf("N9000000W00010"), 0, 1, 1);
        shareIs(parishOf("N9000000W00012"), 0, 0, 1);
    }

    private static void shareBesideNone() {
        sentence = "SHARE of the only one that HOLDS: 1; of one that never does: 0";
        String five = "W09910W09910W09910W09910W09910";
        for (int w = 0; w < 6; w++) {
            OneRing x = parishOf("N9000000" + five.substring(0, 6 * w) + "W00010" + five.substring(6 * w));
            for (int other = 0; other < 6; other++) {
                shareIs(x, other, other == w ? 1 : 0, 1);
            }
        }
    }

    private static void shareInLeastTerms() {
        sentence = "FRACTIONS are told above, below (1 and more), in least terms";
        int[][] wants = {{1, 6}, {1, 3}, {1, 2}, {2, 3}, {5, 6}, {1, 1}, {1, 1}, {1, 1}, {1, 1}};
        for (int sunset = 1; sunset <= 9; sunset++) {
            OneRing x = parishOf("N" + sunset + SIX.substring(2));
            for (int w = 0; w < 6; w++) {
                shareIs(x, w, wants[sunset - 1][0], wants[sunset - 1][1]);
            }
        }
        OneRing x = parishOf(ONE_OF_SIX.substring(0, 38) + "W09910");
        shareIs(x, 0, 1, 5);
        shareIs(x, 5, 0, 1);
    }

    private static void shareOfThoseNotWed() {
        sentence = "SHARE: if WEDDINGS that are not WED come one by one";
        OneRing x = parishOf("N3" + SIX.substring(2));
        shareIs(x, 5, 1, 2);
        x.wed(0);
        shareIs(x, 5, 2, 5);
        x.wed(1);
        shareIs(x, 5, 1, 4);
        x.wed(2);
        shareIs(x, 5, 0, 1);
    }

    private static void shareAsThingsAreNow() {
        sentence = "SHARE: MOST, from now on, as things are now";
        OneRing x = parishOf("N9022222W10110W20910");
        shareIs(x, 0, 0, 1);
        shareIs(x, 1, 1, 1);
        x.mend(0);
        shareIs(x, 0, 1, 1);
        x.linger();
        shareIs(x, 0, 0, 1);
        x.undo();
        x.carry(1);
        shareIs(x, 0, 1, 1);
        x.carry(5);
        shareIs(x, 0, 0, 1);
        shareIs(x, 1, 0, 1);
    }

    // ---- rests

    private static void restsAre(OneRing x, int one, int other, int many, int first) {
        due("rests(" + one + ", " + other + ", 0)", x.rests(one, other, 0), many);
        due("rests(" + one + ", " + other + ", 1)", x.rests(one, other, 1), first);
    }

    private static void restsUnknown() {
        sentence = "rests: UNKNOWN: both";
        for (int n = 0; n <= 6; n++) {
            OneRing x = parishOf(SIX.substring(0, 8 + 6 * n));
            for (int w : new int[] {MIN, -9, -1, n, n + 1, 32, MAX}) {
                restsAre(x, w, 0, UNKNOWN, UNKNOWN);
                restsAre(x, 0, w, UNKNOWN, UNKNOWN);
                restsAre(x, w, w, UNKNOWN, UNKNOWN);
                restsAre(x, w, -1, UNKNOWN, UNKNOWN);
            }
            if (n >= 2) {
                restsAre(x, 0, n - 1, 2, 0);
                restsAre(x, n - 1, 0, 2, 0);
            }
        }
    }

    private static void restsOutside() {
        sentence = "rests: OUTSIDE: both are one, what (0 and 1)";
        OneRing x = parishOf(SIX);
        for (int w = 0; w < 6; w++) {
            restsAre(x, w, w, OUTSIDE, OUTSIDE);
        }
        for (int what : new int[] {MIN, -9, -1, 2, 3, MAX}) {
            due("rests(0, 1, " + what + ")", x.rests(0, 1, what), OUTSIDE);
            due("rests(1, 1, " + what + ")", x.rests(1, 1, what), OUTSIDE);
        }
    }

    private static void restsOfAWedOne() {
        sentence = "rests: STATE: one is WED";
        OneRing x = parishOf(SIX);
        x.wed(3);
        restsAre(x, 3, 0, STATE, STATE);
        restsAre(x, 0, 3, STATE, STATE);
        restsAre(x, 0, 1, 2, 0);
        x.wed(0);
        restsAre(x, 0, 3, STATE, STATE);
    }

    private static void restsRefusalsInTurn() {
        sentence = "rests: UNKNOWN before OUTSIDE before STATE";
        OneRing x = parishOf(SIX.substring(0, 20));
        x.wed(1);
        due("rests(2, 2, 2)", x.rests(2, 2, 2), UNKNOWN);
        due("rests(1, 2, 2)", x.rests(1, 2, 2), UNKNOWN);
        due("rests(-1, 1, -1)", x.rests(-1, 1, -1), UNKNOWN);
        due("rests(1, 1, 0)", x.rests(1, 1, 0), OUTSIDE);
        due("rests(0, 1, 2)", x.rests(0, 1, 2), OUTSIDE);
        due("rests(1, 0, -1)", x.rests(1, 0, -1), OUTSIDE);
        due("rests(1, 0, 0)", x.rests(1, 0, 0), STATE);
    }

    private static void restsHowMany() {
        sentence = "RESTS: pairs: how many: 0, 1, 2; the first (10 times the one and the other); NONE";
        // 4 for the next one, 3 for the other one: asking is no gain and no loss
        restsAre(parishOf("N9000000W00910W00910"), 0, 1, 2, 0);
        restsAre(parishOf("N9000000W00910W00910"), 1, 0, 2, 0);
        // nothing to gain for either
        restsAre(parishOf("N9000000W09910W09910"), 0, 1, 1, 0);
        // the second one gains by asking, the first one loses nothing
        restsAre(parishOf("N9000000W03920W00010"), 0, 1, 1, 1);
        restsAre(parishOf("N9000000W03920W00010"), 1, 0, 1, 10);
        // 4 for the next one, 1 for the other one: the other one asks, then the first one would, then it is idle
        restsAre(parishOf("N9000000W00930W00930"), 0, 1, 0, NONE);
        restsAre(parishOf("N9000000W00930W00930"), 1, 0, 0, NONE);
    }

    private static void restsOfTheLesserNumber() {
        sentence = "RESTS: if both or none do, the one with the lesser number is next";
        // only who is next HOLDS; the first one has 4, and lets the second one have 3 at best, who then asks for that
        OneRing x = parishOf("N9000000W09910W00010W00010");
        restsAre(x, 1, 2, 0, NONE);
        restsAre(x, 2, 1, 0, NONE);
        // the greater number begins at 3 whether it is next or not: the lesser one is next without asking
        x = parishOf("N9000000W00010W03910");
        restsAre(x, 0, 1, 1, 0);
        restsAre(x, 1, 0, 1, 0);
        // the lesser number begins at 3 whether it is next or not: the greater one has to ask
        x = parishOf("N9000000W03910W00010");
        restsAre(x, 0, 1, 1, 1);
        restsAre(x, 1, 0, 1, 10);
    }

    private static void restsOfThoseThatDoNotHold() {
        sentence = "RESTS: a WEDDING that does not HOLD so changes nothing for the other one";
        restsAre(parishOf("N9000000W09930W00010"), 0, 1, 1, 0);
        restsAre(parishOf("N9000000W00010W09930"), 0, 1, 1, 0);
        restsAre(parishOf("N9033333W50010W00010"), 0, 1, 1, 0);
    }

    private static void restsByHoursLater() {
        sentence = "RESTS: brings 4 less how many HOURS later than now it BEGINS; asking costs 1";
        // the first one brings 0 in each case; the second one HOLDS only if it is next: 2, 1, 0 by that
        restsAre(parishOf("N9000000W04930W02210"), 0, 1, 1, 1);
        restsAre(parishOf("N9000000W04930W03310"), 0, 1, 2, 0);
        restsAre(parishOf("N9000000W04930W04410"), 0, 1, 1, 0);
        // the second one: 4, 3, 2, 1 if it is next, 1 if not; the first one HOLDS only if it begins at 0
        restsAre(parishOf("N9000000W00030W01910"), 0, 1, 0, NONE);
        restsAre(parishOf("N9000000W00030W02910"), 0, 1, 1, 0);
        restsAre(parishOf("N9000000W00030W03910"), 0, 1, 1, 0);
    }

    private static void restsNoLessThanNone() {
        sentence = "RESTS: (0 at least)";
        // the second one begins 5 hours later, if it is not next: 0 as of 4, so asking for 1 is no gain
        restsAre(parishOf("N9000000W01931W03910"), 0, 1, 1, 0);
        restsAre(parishOf("N9000000W01930W03910"), 0, 1, 1, 0);
        // 8 hours later, whatever they do
        restsAre(parishOf("N9000000W08910W08910"), 0, 1, 1, 0);
    }

    private static void restsFromNow() {
        sentence = "RESTS: later than now";
        OneRing x = parishOf("N9000000W00930W00930");
        for (int hour = 0; hour <= 3; hour++) {
            restsAre(x, 0, 1, 0, NONE);
            x.linger();
        }
        // at 4 the other one HOLDS no more behind the next one; at 7 none does
        restsAre(x, 0, 1, 0, NONE);
        x.linger();
        x.linger();
        restsAre(x, 0, 1, 0, NONE);
        x.linger();
        restsAre(x, 0, 1, 1, 0);
    }

    private static void restsAsThingsAreNow() {
        sentence = "RESTS: who HOLDS, and when it BEGINS, as things are now";
        OneRing x = parishOf("N9010000W10110W00910");
        // the lesser number next: 3 and 1; the other one next: 0 and 4
        restsAre(x, 0, 1, 0, NONE);
        x.carry(1);
        // 4 and 2; 0 and 3
        restsAre(x, 0, 1, 1, 0);
        x.undo();
        x.mend(0);
        // 4 and 3; 3 and 4
        restsAre(x, 0, 1, 2, 0);
    }

    // ---- falls

    private static void fallsAre(OneRing x, int n, int row, int tenths, int above, int below) {
        due("falls(" + n + ", " + row + ", " + tenths + ", true)", x.falls(n, row, tenths, true), above);
        due("falls(" + n + ", " + row + ", " + tenths + ", false)", x.falls(n, row, tenths, false), below);
    }

    private static void fallsOfSoMany() {
        sentence = "falls: OUTSIDE: n (1 to 6)";
        OneRing x = parishOf(SIX);
        int[] rows = {0, 1, 12, 123, 1234, 12345, 123456};
        for (int n = 1; n <= 6; n++) {
            fallsAre(x, n, rows[n], 5, 1, 1);
        }
        for (int n : new int[] {MIN, -9, -1, 0, 7, 8, MAX}) {
            fallsAre(x, n, 1, 5, OUTSIDE, OUTSIDE);
            fallsAre(x, n, 123456, 5, OUTSIDE, OUTSIDE);
        }
    }

    private static void fallsOfFigures() {
        sentence = "falls: OUTSIDE: row (0 or more, n figures at most)";
        OneRing x = parishOf(SIX);
        int unit = 1;
        for (int n = 1; n <= 6; n++) {
            unit *= 10;
            fallsAre(x, n, 0, 5, STATE, STATE);
            fallsAre(x, n, unit - 1, 5, STATE, STATE);
            for (int row : new int[] {MIN, -unit, -1, unit, unit + 1, 1000000, MAX}) {
                fallsAre(x, n, row, 5, OUTSIDE, OUTSIDE);
            }
        }
    }

    private static void fallsByTenths() {
        sentence = "falls: OUTSIDE: x tenths (0 to 10)";
        OneRing x = parishOf("N9010000W10110");
        int[][] wants = {{1, 1}, {9, 10}, {4, 5}, {7, 10}, {3, 5}, {1, 2}, {2, 5}, {3, 10}, {1, 5}, {1, 10}, {0, 1}};
        for (int tenths = 0; tenths <= 10; tenths++) {
            fallsAre(x, 1, 1, tenths, wants[tenths][0], wants[tenths][1]);
        }
        for (int tenths : new int[] {MIN, -9, -1, 11, 12, 100, MAX}) {
            fallsAre(x, 1, 1, tenths, OUTSIDE, OUTSIDE);
        }
    }

    private static void fallsOfNoRow() {
        sentence = "falls: STATE: the ROW is not of WEDDINGS that there are, each once, such as are not WED";
        for (int many = 0; many <= 6; many++) {
            OneRing x = parishOf(SIX.substring(0, 8 + 6 * many));
            for (int figure = 0; figure <= 9; figure++) {
                boolean there = figure >= 1 && figure <= many;
                fallsAre(x, 1, figure, 5, there ? 1 : STATE, there ? 1 : STATE);
            }
        }
        OneRing x = parishOf(SIX);
        fallsAre(x, 2, 1, 5, STATE, STATE);
        fallsAre(x, 2, 10, 5, STATE, STATE);
        fallsAre(x, 2, 11, 5, STATE, STATE);
        fallsAre(x, 6, 123451, 5, STATE, STATE);
        fallsAre(x, 6, 12345, 5, STATE, STATE);
        fallsAre(x, 6, 123457, 5, STATE, STATE);
        x.wed(5);
        fallsAre(x, 1, 6, 5, STATE, STATE);
        fallsAre(x, 6, 123456, 5, STATE, STATE);
        fallsAre(x, 5, 12345, 5, 1, 1);
        x.undo();
        fallsAre(x, 6, 123456, 5, 1, 1);
    }

    private static void fallsRefusalsInTurn() {
        sentence = "falls: OUTSIDE before STATE";
        OneRing x = parishOf(SIX.substring(0, 14));
        x.wed(0);
        fallsAre(x, 1, 1, 0, STATE, STATE);
        fallsAre(x, 1, 1, 11, OUTSIDE, OUTSIDE);
        fallsAre(x, 1, 2, -1, OUTSIDE, OUTSIDE);
        fallsAre(x, 1, 11, 0, OUTSIDE, OUTSIDE);
        fallsAre(x, 0, 1, 0, OUTSIDE, OUTSIDE);
    }

    private static void fallsNeverAndAlways() {
        sentence = "FALLS: by 0 tenths never, by 10 tenths on each WAY";
        OneRing x = parishOf("N9010000W10210W00510W10810");
        fallsAre(x, 3, 123, 0, 1, 1);
        fallsAre(x, 3, 123, 10, 1, 1);
        x = parishOf("N9010000W10210W00510W10710");
        fallsAre(x, 3, 123, 0, 1, 1);
        fallsAre(x, 3, 123, 10, 0, 1);
        fallsAre(x, 3, 123, 5, 7, 8);
    }

    private static void fallsOnWays() {
        sentence = "FALLS: on each WAY of 1 HOUR or more, the first one, too";
        fallsAre(parishOf("N9000000W50010"), 1, 1, 10, 1, 1);
        fallsAre(parishOf("N9000010W50110"), 1, 1, 10, 0, 1);
        fallsAre(parishOf("N9000010W50210"), 1, 1, 10, 1, 1);
        fallsAre(parishOf("N9000000W50112"), 1, 1, 10, 1, 1);
        OneRing x = parishOf("N9010000W10910W10210W00910W00510");
        fallsAre(x, 2, 12, 3, 7, 10);
        fallsAre(x, 2, 34, 3, 1, 1);
        // ways of 1, 0, 1, 0: no hour to spare for the second one, nor for the last one
        fallsAre(x, 4, 1234, 3, 49, 100);
        fallsAre(x, 3, 134, 3, 91, 100);
    }

    private static void fallsOneHour() {
        sentence = "FALLS: the WAY is 1 HOUR longer then, however long it is";
        fallsAre(parishOf("N9030000W10310"), 1, 1, 4, 3, 5);
        fallsAre(parishOf("N9030000W10410"), 1, 1, 4, 1, 1);
        fallsAre(parishOf("N9011111W50510"), 1, 1, 4, 3, 5);
        fallsAre(parishOf("N9011111W50610"), 1, 1, 4, 1, 1);
        fallsAre(parishOf("N9010000W10212"), 1, 1, 4, 3, 5);
        fallsAre(parishOf("N9010000W12210"), 1, 1, 4, 1, 1);
        fallsAre(parishOf("N9010000W10910"), 1, 1, 4, 1, 1);
    }

    private static void fallsOfManyWays() {
        sentence = "FALLS: by itself on each WAY: a FRACTION";
        // ways of 1 each, an hour to spare: one fall at most
        OneRing x = parishOf("N9010000W10910W00910W10910W00910W00910");
        fallsAre(x, 4, 1234, 3, 6517, 10000);
        fallsAre(x, 4, 1234, 1, 9477, 10000);
        fallsAre(x, 4, 1234, 9, 37, 10000);
        fallsAre(x, 4, 1234, 5, 5, 16);
        // none to spare: no fall
        fallsAre(x, 5, 12345, 3, 2401, 10000);
        fallsAre(x, 5, 12345, 9, 1, 10000);
        fallsAre(x, 5, 12345, 10, 0, 1);
        fallsAre(x, 5, 12345, 0, 1, 1);
        x = parishOf("N9010000W10910W00910W10910W10910W10910W10910");
        fallsAre(x, 6, 123456, 3, 343, 1000);
        fallsAre(x, 6, 123456, 10, 0, 1);
    }

    private static void fallsOfARowThatDoesNotHold() {
        sentence = "FALLS: that all of the ROW HOLD: 0 of 1, if they do not anyhow";
        fallsAre(parishOf("N9000000W00010W00010"), 2, 12, 0, 0, 1);
        fallsAre(parishOf("N9010000W10010"), 1, 1, 5, 0, 1);
        OneRing x = parishOf(SIX);
        for (int hour = 0; hour <= 4; hour++) {
            fallsAre(x, 6, 654321, 5, hour <= 3 ? 1 : 0, 1);
            x.linger();
        }
    }

    private static void fallsAsThingsAreNow() {
        sentence = "FALLS: that all of the ROW HOLD, from now on, as things are now";
        OneRing x = parishOf("N9020000W10210");
        fallsAre(x, 1, 1, 3, 7, 10);
        x.linger();
        fallsAre(x, 1, 1, 3, 0, 1);
        x.undo();
        x.mend(0);
        fallsAre(x, 1, 1, 3, 1, 1);
        x.linger();
        fallsAre(x, 1, 1, 3, 7, 10);
        x.carry(1);
        fallsAre(x, 1, 1, 3, 1, 1);
        x.linger();
        fallsAre(x, 1, 1, 3, 0, 1);
        x.undo();
        x.undo();
        x.mend(0);
        fallsAre(x, 1, 1, 10, 1, 1);
    }

    // ---- seed, summers

    private static void seedsToTheirEnds() {
        sentence = "THE SEED is v: what it was (a long; 0 at first)";
        OneRing x = new OneRing();
        long was = 0;
        for (long v : new long[] {1, -1, Long.MAX_VALUE, Long.MIN_VALUE, MAX, MIN, 1L << 32, NONE, 0, 0}) {
            due("seed(" + v + ")", x.seed(v), was);
            was = v;
        }
    }

    private static void summersOfSoMany() {
        sentence = "summers: OUTSIDE: m times (1 to 30)";
        OneRing x = new OneRing();
        due("summers(1)", x.summers(1), 0);
        due("summers(30)", x.summers(30), 0);
        for (int m : new int[] {MIN, -9, -1, 0, 31, 32, MAX}) {
            due("summers(" + m + ")", x.summers(m), OUTSIDE);
        }
    }

    private static void summersRefused() {
        sentence = "summers refused: THE SEED stays";
        OneRing x = parishOf(SIX);
        x.seed(5);
        x.summers(0);
        x.summers(31);
        x.summers(-1);
        due("seed(0)", x.seed(0), 5);
    }

    private static long next(long v) {
        return BigInteger.valueOf(v).multiply(new BigInteger("6364136223846793005"))
            .add(new BigInteger("1442695040888963407")).longValue();
    }

    private static void seedsWrap() {
        sentence = "(64 bits, wrapping)";
        for (long v : new long[] {0, 1, 2, -1, Long.MAX_VALUE, Long.MIN_VALUE, Long.MAX_VALUE - 1, 1L << 62, MAX, MIN}) {
            OneRing x = new OneRing();
            x.seed(v);
            x.summers(1);
            due("seed, behind one of " + v, x.seed(v), next(v));
            x.summers(30);
            long last = v;
            for (int i = 0; i < 30; i++) {
                last = next(last);
            }
            due("seed, behind 30 of " + v, x.seed(0), last);
        }
        OneRing x = new OneRing();
        x.summers(1);
        due("seed, behind one of 0", x.seed(2), 1442695040888963407L);
        x.summers(1);
        due("seed, behind one of 2", x.seed(0), -4275776585127002199L);
    }

    private static int event(long seed) {
        byte[] bits = new byte[31];
        String all = String.format("%64s", Long.toBinaryString(seed)).replace(' ', '0');
        return (int) (Long.parseLong(all.substring(0, bits.length), 2) % 8);
    }

    /** The least seed from 0 on that brings these events next. */
    private static long seedFor(int... events) {
        for (long v = 0; v < 10000000; v++) {
            long x = v;
            int so = 0;
            while (so < events.length) {
                x = x * 6364136223846793005L + 1442695040888963407L;
                if ((x >>> 33) % 8 != events[so]) {
                    break;
                }
                so++;
            }
            if (so == events.length) {
                return v;
            }
        }
        throw new IllegalStateException("no such seed");
    }

    private static void summersAre(OneRing x, int want, int... events) {
        x.seed(seedFor(events));
        due("summers by " + java.util.Arrays.toString(events), x.summers(events.length), want);
    }

    private static void summersOneByOne() {
        sentence = "its upper 31 bits by 8, what is left: 0 to 5 that WEDDING, 6, 7";
        for (int w = 0; w < 6; w++) {
            OneRing x = parishOf(SIX);
            for (int other = 0; other < 6; other++) {
                if (other != w) {
                    x.wed(other);
                }
            }
            for (long v = -40; v < 40; v++) {
                x.seed(v);
                due("summers(1) by " + v + ", all but " + w + " wed", x.summers(1), event(next(v)) == w ? 1 : 0);
            }
        }
    }

    private static void summersWed() {
        sentence = "that WEDDING is WED, if there is such a one, it is not, and HOLDS";
        for (int many = 0; many <= 6; many++) {
            OneRing x = parishOf(SIX.substring(0, 8 + 6 * many));
            for (int event = 0; event <= 7; event++) {
                summersAre(x, event < many ? 1 : 0, event);
                summersAre(x, event < many ? 1 : 0, event, event);
            }
        }
        OneRing x = parishOf("N2000000W00910W00910W00910W01110W02210W00020");
        summersAre(x, 2, 0, 1, 2);
        summersAre(x, 1, 3, 0);
        summersAre(x, 0, 4);
        summersAre(x, 1, 5, 0);
        summersAre(x, 1, 0, 5);
    }

    private static void summersWaited() {
        sentence = "6 an HOUR is WAITED";
        OneRing x = parishOf("N2000000W00010W00110W00910");
        summersAre(x, 1, 0);
        summersAre(x, 0, 6, 0);
        summersAre(x, 1, 6, 1);
        summersAre(x, 1, 6, 2);
        summersAre(x, 0, 6, 6, 1);
        summersAre(x, 0, 6, 6, 2);
    }

    private static void summersNewDay() {
        sentence = "7 a new day: THE HOUR is 0 (the RING lies where it does, nobody is WED)";
        OneRing x = parishOf("N9010000W10110W00010W00110");
        summersAre(x, 2, 0, 7, 0);
        summersAre(x, 1, 6, 7, 1);
        summersAre(x, 0, 6, 1);
        summersAre(x, 1, 0, 7, 1);
        summersAre(x, 2, 0, 7, 2);
        summersAre(x, 3, 1, 7, 1, 7, 1);
    }

    private static void summersFromNow() {
        sentence = "SUMMERS go on from how things stand now";
        OneRing x = parishOf("N9010000W00110W10910");
        summersAre(x, 1, 0);
        x.wed(0);
        summersAre(x, 0, 0);
        summersAre(x, 1, 7, 0);
        summersAre(x, 1, 1);
        x.undo();
        x.linger();
        summersAre(x, 1, 0);
        x.linger();
        summersAre(x, 0, 0);
        summersAre(x, 1, 7, 0);
        for (int i = 0; i < 6; i++) {
            x.linger();
        }
        summersAre(x, 0, 1);
        x.mend(0);
        summersAre(x, 1, 1);
        summersAre(x, 0, 6, 1);
    }

    private static void summersChangeTheSeedAlone() {
        sentence = "(Nothing changes but THE SEED.)";
        OneRing x = parishOf("N9111111W20910W30910");
        x.linger();
        x.mend(4);
        x.keep(1);
        summersAre(x, 2, 0, 1, 6, 7);
        int[] wants = {20, 2, 9, 1, 1, 0, 3, 2, 0};
        for (int what = 0; what < wants.length; what++) {
            due("count(" + what + ")", x.count(what), wants[what]);
        }
        due("undo()", x.undo(), 1);
        due("road(4)", x.road(4), 1);
        due("undo()", x.undo(), 0);
        due("again(1)", x.again(1), 1);
    }

    // ---- keep, again

    private static void slotsThereAre() {
        sentence = "keep, again: UNKNOWN: SLOTS 0 to 1";
        OneRing x = new OneRing();
        for (int slot : new int[] {MIN, -9, -1, 2, 3, MAX}) {
            due("keep(" + slot + ")", x.keep(slot), UNKNOWN);
            due("again(" + slot + ")", x.again(slot), UNKNOWN);
        }
        due("again(0)", x.again(0), STATE);
        due("again(1)", x.again(1), STATE);
        due("keep(0)", x.keep(0), 0);
        due("keep(1)", x.keep(1), 0);
        due("again(0)", x.again(0), 0);
        due("again(1)", x.again(1), 0);
    }

    private static void slotsOfNone() {
        sentence = "again: STATE: none were kept";
        for (int slot = 0; slot <= 1; slot++) {
            OneRing x = new OneRing();
            x.linger();
            due("again(" + slot + ")", x.again(slot), STATE);
            due("count(3)", x.count(3), 1);
            due("count(7)", x.count(7), 1);
            due("keep(" + slot + ")", x.keep(slot), 1);
            due("again(" + (1 - slot) + ")", x.again(1 - slot), STATE);
            due("count(7)", x.count(7), 1);
            due("again(" + slot + ")", x.again(slot), 1);
            due("again(" + slot + ")", x.again(slot), 1);
        }
    }

    private static void slotsOfTwo() {
        sentence = "SLOTS 0 to 1 keep each its own; what is kept later takes its place";
        OneRing x = new OneRing();
        x.linger();
        due("keep(0)", x.keep(0), 1);
        x.linger();
        due("keep(1)", x.keep(1), 2);
        x.linger();
        due("again(0)", x.again(0), 1);
        due("again(1)", x.again(1), 2);
        due("again(0)", x.again(0), 1);
        x.carry(5);
        due("keep(0)", x.keep(0), 6);
        due("again(1)", x.again(1), 2);
        due("again(0)", x.again(0), 6);
        due("count(4)", x.count(4), 5);
    }

    private static void slotsKeepAll() {
        sentence = "SLOTS keep THE HOUR, where the RING lies, who is WED, ROADS";
        OneRing x = parishOf("N9133333W30930W50910");
        x.keep(0);
        for (int r = 0; r <= 4; r++) {
            x.mend(r);
        }
        x.wed(0);
        x.linger();
        x.keep(1);
        due("again(0)", x.again(0), 0);
        due("count(3)", x.count(3), 0);
        due("count(4)", x.count(4), 1);
        due("count(5)", x.count(5), 0);
        for (int r = 0; r <= 4; r++) {
            due("road(" + r + ")", x.road(r), 3);
        }
        due("again(1)", x.again(1), 8);
        due("count(4)", x.count(4), 3);
        due("count(5)", x.count(5), 1);
        for (int r = 0; r <= 4; r++) {
            due("road(" + r + ")", x.road(r), 2);
        }
        x.mend(0);
        due("again(1): as it was kept", x.again(1), 8);
        due("road(0)", x.road(0), 2);
    }

    private static void slotsLeaveAllElse() {
        sentence = "SLOTS keep nothing else: THE TEXT, SEEN, THE SEED stay";
        OneRing x = parishOf(SIX);
        x.keep(0);
        x.see(6, 5);
        x.see(0, 0);
        x.seed(8);
        x.write('X');
        due("again(0)", x.again(0), 0);
        due("count(0)", x.count(0), 45);
        due("count(8)", x.count(8), 2);
        due("seed(0)", x.seed(0), 8);
    }

    private static void slotsAndActs() {
        sentence = "(THE ROW of ACTS is empty when one goes on)";
        OneRing x = new OneRing();
        for (int i = 0; i < 15; i++) {
            x.linger();
        }
        due("keep(0)", x.keep(0), 15);
        due("count(7): kept is no ACT", x.count(7), 14);
        due("undo()", x.undo(), 13);
        due("again(0)", x.again(0), 15);
        due("count(7)", x.count(7), 0);
        due("undo()", x.undo(), STATE);
        x.linger();
        due("count(7)", x.count(7), 1);
        due("undo()", x.undo(), 0);
        due("count(3)", x.count(3), 15);
    }

    // ---- count

    private static void countsThereAre() {
        sentence = "count: OUTSIDE: 0 to 8";
        OneRing x = new OneRing();
        for (int what : new int[] {MIN, -9, -1, 9, 10, MAX}) {
            due("count(" + what + ")", x.count(what), OUTSIDE);
        }
    }

    private static void countsOfNone() {
        sentence = "count: each of them at its least";
        OneRing x = parishOf("N1000000");
        x.wipe();
        int[] wants = {0, 0, 1, 0, 0, 0, 0, 0, 0};
        for (int what = 0; what < wants.length; what++) {
            due("count(" + what + ")", x.count(what), wants[what]);
        }
    }

    private static void countsOfAll() {
        sentence = "count: each of them at its most";
        OneRing x = parishOf("N9011111W00010W10910W20910W30910W40910W50910");
        due("count(6): bits", x.count(6), 63);
        x.linger();
        due("count(6): bits", x.count(6), 62);
        x.undo();
        type(x, "x".repeat(48));
        for (int i = 1; i <= 6; i++) {
            x.see(6, 5);
        }
        x.wed(0);
        x.undo();
        for (int w = 1; w <= 3; w++) {
            x.wed(w);
        }
        due("count(5): bits", x.count(5), 14);
        due("count(6): bits: the last one ends at sunset", x.count(6), 48);
        for (int i = 0; i < 12; i++) {
            x.linger();
        }
        x.carry(5);
        int[] wants = {48, 6, 9, 20, 5, 14, 0, 14, 6};
        for (int what = 0; what < wants.length; what++) {
            due("count(" + what + ")", x.count(what), wants[what]);
        }
        x = parishOf(SIX);
        for (int w = 0; w < 6; w++) {
            due("count(5)", x.count(5), (1 << w) - 1);
            due("count(6)", x.count(6), 63 & -(1 << w));
            x.wed(w);
        }
        due("count(5)", x.count(5), 63);
        due("count(6)", x.count(6), 0);
    }
}
