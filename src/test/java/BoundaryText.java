/** The document's boundary sentences about a new object, THE TEXT, FAULT and the parish (promises 1 to 5), one by one. */
public final class BoundaryText {
    private static final int UNKNOWN = -1, OUTSIDE = -2, STATE = -3, FULL = -4, NONE = -9;
    private static final String HEAD = "N9011111";
    private static final String SIX = HEAD + "W00910W00910W00910W00910W00910W00910";

    private static int wrong = 0;
    private static String sentence = "";

    public static void main(String[] args) {
        theConstants();
        firstSunset();
        firstRing();
        firstRoads();
        firstWeddings();
        firstHour();
        firstOfAllElse();
        newObjectsShareNothing();
        lettersAllowed();
        lettersBelow();
        lettersAbove();
        lettersAreWhole();
        howLongTheTextIs();
        fullText();
        outsideBeforeFull();
        refusedLetters();
        wipeOfNone();
        wipeOfAll();
        wipeLeavesTheParish();
        faultOfNone();
        faultOfEachStart();
        faultOfEachLetter();
        faultOfEachSpan();
        faultWhateverComesBehind();
        faultBehindSix();
        faultOfFullText();
        faultChangesNothing();
        parishOfAFault();
        parishRefusedChangesNothing();
        parishOfNoneAndSix();
        parishAtEachFigure();
        parishLeavesTheText();
        parishEmptiesTheActs();
        parishForgetsWhatWasKept();
        parishLeavesSeenAndSeed();
        parishMadeAnew();
        parishGrowsAndShrinks();
        System.out.println(wrong == 0 ? "all answers are as due" : wrong + " answers are not as due");
        if (wrong != 0) {
            System.exit(1);
        }
    }

    private static void due(String call, long got, long want) {
        if (got != want) {
            wrong++;
            System.out.println(sentence + ": " + call + " answered " + got + ", due is " + want);
        }
    }

    private static OneRing typed(String letters) {
        OneRing x = new OneRing();
        type(x, letters);
        return x;
    }

    private static void type(OneRing x, String letters) {
        x.wipe();
        for (int i = 0; i < letters.length(); i++) {
            x.write(letters.charAt(i));
        }
    }

    private static OneRing parishOf(String letters) {
        OneRing x = typed(letters);
        due("parish() of " + letters, x.parish(), (letters.length() - 8) / 6);
        return x;
    }

    // ---- the constants, a new object

    private static void theConstants() {
        sentence = "UNKNOWN = -1, OUTSIDE = -2, STATE = -3, FULL = -4, NONE = -9";
        due("UNKNOWN", OneRing.UNKNOWN, UNKNOWN);
        due("OUTSIDE", OneRing.OUTSIDE, OUTSIDE);
        due("STATE", OneRing.STATE, STATE);
        due("FULL", OneRing.FULL, FULL);
        due("NONE", OneRing.NONE, NONE);
    }

    private static void firstSunset() {
        sentence = "At first SUNSET is 9";
        due("count(2)", new OneRing().count(2), 9);
    }

    private static void firstRing() {
        sentence = "At first the RING lies in CHURCH 0";
        due("count(4)", new OneRing().count(4), 0);
        due("carry(0)", new OneRing().carry(0), STATE);
    }

    private static void firstRoads() {
        sentence = "At first all ROADS are 1 long";
        for (int r = 0; r <= 4; r++) {
            OneRing x = new OneRing();
            due("road(" + r + ")", x.road(r), 1);
            due("way to the next", x.way(r, r + 1), 1);
            due("mend(" + r + ")", x.mend(r), 0);
        }
        due("way(0, 5)", new OneRing().way(0, 5), 5);
    }

    private static void firstWeddings() {
        sentence = "At first there are no WEDDINGS";
        OneRing x = new OneRing();
        due("count(1)", x.count(1), 0);
        due("count(6)", x.count(6), 0);
        due("wedding(0, 0)", x.wedding(0, 0), UNKNOWN);
        due("wed(0)", x.wed(0), UNKNOWN);
        due("later(0)", x.later(0), UNKNOWN);
        due("share(0, true)", x.share(0, true), UNKNOWN);
        due("rests(0, 1, 0)", x.rests(0, 1, 0), UNKNOWN);
        due("most(0)", x.most(0), 0);
        due("most(1)", x.most(1), 0);
        due("most(2)", x.most(2), 0);
        due("judge(1, 1)", x.judge(1, 1), 0);
        due("falls(1, 1, 0, true)", x.falls(1, 1, 0, true), STATE);
        due("rows(0, 0)", x.rows(0, 0), 1);
        due("rows(1, 0)", x.rows(1, 0), 0);
        due("rows(1, 1)", x.rows(1, 1), NONE);
        due("summers(30)", x.summers(30), 0);
    }

    private static void firstHour() {
        sentence = "THE HOUR is 0, nobody is WED";
        due("count(3)", new OneRing().count(3), 0);
        due("count(5)", new OneRing().count(5), 0);
    }

    private static void firstOfAllElse() {
        sentence = "At first there is no letter, no ACT, nothing SEEN, nothing kept, THE SEED is 0";
        OneRing x = new OneRing();
        due("count(0)", x.count(0), 0);
        due("wipe()", x.wipe(), 0);
        due("count(7)", x.count(7), 0);
        due("undo()", x.undo(), STATE);
        due("count(8)", x.count(8), 0);
        due("unsee()", x.unsee(), 0);
        due("again(0)", x.again(0), STATE);
        due("again(1)", x.again(1), STATE);
        due("seed(0)", x.seed(0), 0);
    }

    private static void newObjectsShareNothing() {
        sentence = "A new object is as at first, whatever another one was asked";
        OneRing used = parishOf("N5500000W50910W00210");
        used.wed(0);
        used.linger();
        used.see(6, 5);
        used.seed(99);
        used.keep(0);
        used.keep(1);
        firstSunset();
        firstRing();
        firstRoads();
        firstWeddings();
        firstHour();
        firstOfAllElse();
        sentence = "An object is as it was, whatever a new one was asked";
        due("count(2)", used.count(2), 5);
        due("count(5)", used.count(5), 1);
        due("count(7)", used.count(7), 2);
        due("seed(0)", used.seed(0), 99);
        due("again(1)", used.again(1), 2);
    }

    // ---- write, wipe

    private static void lettersAllowed() {
        sentence = "A letter (0 to 255) comes behind THE TEXT";
        for (int letter : new int[] {0, 1, 127, 128, 254, 255}) {
            OneRing x = new OneRing();
            due("write(" + letter + ")", x.write(letter), 1);
            due("count(0)", x.count(0), 1);
        }
    }

    private static void lettersBelow() {
        sentence = "A letter below 0: OUTSIDE";
        for (int letter : new int[] {-1, -2, -255, -256, -178, Integer.MIN_VALUE, Integer.MIN_VALUE + 'N'}) {
            due("write(" + letter + ")", new OneRing().write(letter), OUTSIDE);
        }
    }

    private static void lettersAbove() {
        sentence = "A letter above 255: OUTSIDE";
        for (int letter : new int[] {256, 257, 256 + 'N', 65536 + 'N', Integer.MAX_VALUE}) {
            due("write(" + letter + ")", new OneRing().write(letter), OUTSIDE);
        }
    }

    private static void lettersAreWhole() {
        sentence = "A letter of 128 to 255 is no letter of below 128";
        OneRing x = new OneRing();
        x.write('N' + 128);
        due("fault()", x.fault(), 0);
        x = new OneRing();
        x.write('N');
        x.write('9' + 128);
        due("fault()", x.fault(), 1);
    }

    private static void howLongTheTextIs() {
        sentence = "write: how long it is";
        OneRing x = new OneRing();
        for (int n = 1; n <= 48; n++) {
            due("write('N')", x.write('N'), n);
            due("count(0)", x.count(0), n);
        }
    }

    private static void fullText() {
        sentence = "FULL: there are 48";
        OneRing x = typed("x".repeat(47));
        due("write, of 47", x.write(0), 48);
        for (int letter : new int[] {0, 1, 'N', 255}) {
            due("write(" + letter + "), of 48", x.write(letter), FULL);
        }
        x.wipe();
        due("write, of none", x.write(0), 1);
    }

    private static void outsideBeforeFull() {
        sentence = "OUTSIDE before FULL";
        OneRing x = typed("x".repeat(48));
        for (int letter : new int[] {-1, 256, Integer.MIN_VALUE, Integer.MAX_VALUE}) {
            due("write(" + letter + "), of 48", x.write(letter), OUTSIDE);
        }
    }

    private static void refusedLetters() {
        sentence = "A refused letter changes nothing";
        OneRing x = typed("N90");
        x.write(-1);
        x.write(256);
        due("count(0)", x.count(0), 3);
        due("fault()", x.fault(), 3);
        type(x, SIX);
        x.write(256 + 'W');
        due("fault()", x.fault(), NONE);
        due("count(0)", x.count(0), 44);
        type(x, SIX + "WWWW");
        x.write('W');
        due("count(0)", x.count(0), 48);
        due("wipe()", x.wipe(), 48);
    }

    private static void wipeOfNone() {
        sentence = "wipe: how long it was: 0 of no letters";
        OneRing x = new OneRing();
        due("wipe()", x.wipe(), 0);
        due("wipe()", x.wipe(), 0);
        x.write(7);
        due("wipe()", x.wipe(), 1);
        due("wipe()", x.wipe(), 0);
    }

    private static void wipeOfAll() {
        sentence = "wipe: how long it was: 48 of all letters; THE TEXT is empty then";
        OneRing x = typed("N".repeat(48));
        due("wipe()", x.wipe(), 48);
        due("count(0)", x.count(0), 0);
        due("fault()", x.fault(), 0);
        due("parish()", x.parish(), STATE);
        due("write('N')", x.write('N'), 1);
        due("fault(): no letter of the old ones is left", x.fault(), 1);
    }

    private static void wipeLeavesTheParish() {
        sentence = "wipe: THE TEXT alone is empty";
        OneRing x = parishOf("N8212121W20910");
        x.wed(0);
        x.wipe();
        int[] wants = {0, 1, 8, 1, 2, 1, 0, 1, 0};
        for (int what = 0; what < wants.length; what++) {
            due("count(" + what + ")", x.count(what), wants[what]);
        }
        due("wedding(0, 2)", x.wedding(0, 2), 9);
        due("road(1)", x.road(1), 2);
    }

    // ---- fault

    private static void faultOfNone() {
        sentence = "FAULT: its length, if it is only not at its end: 0 of no letters";
        due("fault()", new OneRing().fault(), 0);
    }

    private static void faultOfEachStart() {
        sentence = "FAULT: its length, if it is only not at its end; NONE: none";
        for (int n = 0; n <= SIX.length(); n++) {
            boolean whole = n >= 8 && (n - 8) % 6 == 0;
            due("fault() of " + n + " letters", typed(SIX.substring(0, n)).fault(), whole ? NONE : n);
        }
    }

    /** The letters that may stand at a place of the text of six weddings from 0 to 9. */
    private static String lettersFor(int place) {
        String[] head = {"N", "123456789", "012345"};
        if (place < 8) {
            return place < 3 ? head[place] : "0123";
        }
        String[] wedding = {"W", "012345", "0123456789", "9", "123", "0123"};
        String letters = wedding[(place - 8) % 6];
        return letters.equals("9") ? "0123456789" : letters;
    }

    private static void faultOfEachLetter() {
        sentence = "FAULT: the place of the first letter by which THE TEXT can be no PARISH";
        for (int place = 0; place < SIX.length(); place++) {
            for (int letter = 0; letter <= 255; letter++) {
                OneRing x = new OneRing();
                for (int i = 0; i < SIX.length(); i++) {
                    x.write(i == place ? letter : SIX.charAt(i));
                }
                boolean fits = lettersFor(place).indexOf((char) letter) >= 0;
                due("fault(), the letter " + letter + " at " + place, x.fault(), fits ? NONE : place);
            }
        }
    }

    private static void faultOfEachSpan() {
        sentence = "from a to b (0 to 9, b no less than a)";
        for (int w = 0; w < 6; w++) {
            for (int a = 0; a <= 9; a++) {
                for (int b = 0; b <= 9; b++) {
                    StringBuilder s = new StringBuilder(SIX);
                    s.setCharAt(8 + 6 * w + 2, (char) ('0' + a));
                    s.setCharAt(8 + 6 * w + 3, (char) ('0' + b));
                    due("fault() of " + s, typed(s.toString()).fault(), b >= a ? NONE : 8 + 6 * w + 3);
                }
            }
        }
    }

    private static void faultWhateverComesBehind() {
        sentence = "FAULT: by which THE TEXT can be no PARISH, whatever came behind it";
        String[] starts = {"M", "N0", "N96", "N904", "N9011114", "N9011111V", "N9011111W6", "N9011111W0:",
            "N9011111W054", "N9011111W0550", "N9011111W05514"};
        for (String start : starts) {
            OneRing x = typed(start);
            for (int n = start.length(); n <= 48; n++) {
                due("fault() of " + start + " and " + (n - start.length()) + " letters", x.fault(), start.length() - 1);
                x.write(n % 2 == 0 ? '1' : 'W');
            }
        }
    }

    private static void faultBehindSix() {
        sentence = "WEDDINGS, none or more (6 at most)";
        due("fault() of none", typed(HEAD).fault(), NONE);
        due("fault() of six", typed(SIX).fault(), NONE);
        for (int letter = 0; letter <= 255; letter++) {
            OneRing x = typed(SIX);
            x.write(letter);
            due("fault() of six and the letter " + letter, x.fault(), 44);
        }
    }

    private static void faultOfFullText() {
        sentence = "FAULT of 45 to 48 letters";
        OneRing x = typed(SIX);
        for (char letter : "W009".toCharArray()) {
            x.write(letter);
            due("fault()", x.fault(), 44);
            due("parish()", x.parish(), STATE);
        }
    }

    private static void faultChangesNothing() {
        sentence = "fault: nothing is changed";
        OneRing x = typed(SIX);
        due("fault()", x.fault(), NONE);
        due("fault()", x.fault(), NONE);
        due("count(0)", x.count(0), 44);
        due("count(1)", x.count(1), 0);
    }

    // ---- parish

    private static void parishOfAFault() {
        sentence = "parish: STATE: a FAULT";
        for (String letters : new String[] {"", "N", "N901111", "x", "N9011111W", "N9011111W0091", SIX + "W",
            "N0011111", "N9011111W00900"}) {
            due("parish() of " + letters, typed(letters).parish(), STATE);
        }
    }

    private static void parishRefusedChangesNothing() {
        sentence = "parish refused changes nothing";
        OneRing x = parishOf("N8212121W20910W50910");
        x.wed(0);
        x.mend(1);
        x.keep(1);
        x.see(2, 5);
        x.seed(12);
        for (String letters : new String[] {"", "N1", "N9011111W"}) {
            type(x, letters);
            due("parish()", x.parish(), STATE);
            int[] wants = {letters.length(), 2, 8, 1, 2, 1, 2, 2, 1};
            for (int what = 0; what < wants.length; what++) {
                due("count(" + what + ")", x.count(what), wants[what]);
            }
            due("road(1)", x.road(1), 1);
            due("wedding(1, 0)", x.wedding(1, 0), 5);
        }
        due("seed(0)", x.seed(0), 12);
        due("undo()", x.undo(), 1);
        due("again(1)", x.again(1), 1);
    }

    private static void parishOfNoneAndSix() {
        sentence = "parish: how many WEDDINGS: 0 to 6";
        for (int n = 0; n <= 6; n++) {
            OneRing x = typed(SIX.substring(0, 8 + 6 * n));
            due("parish()", x.parish(), n);
            due("count(1)", x.count(1), n);
            due("count(6)", x.count(6), (1 << n) - 1);
            due("wedding(n, 0)", x.wedding(n, 0), UNKNOWN);
            due("wedding(n - 1, 0)", x.wedding(n - 1, 0), n == 0 ? UNKNOWN : 0);
        }
    }

    private static void parishAtEachFigure() {
        sentence = "SUNSET (1 to 9), a CHURCH (0 to 5) where the RING lies, then five figures (0 to 3)";
        for (int sunset = 1; sunset <= 9; sunset++) {
            due("count(2)", parishOf("N" + sunset + "000000").count(2), sunset);
        }
        for (int church = 0; church <= 5; church++) {
            due("count(4)", parishOf("N9" + church + "00000").count(4), church);
        }
        for (int r = 0; r <= 4; r++) {
            for (int hours = 0; hours <= 3; hours++) {
                OneRing x = parishOf("N90" + "22222".substring(0, r) + hours + "22222".substring(r + 1));
                for (int other = 0; other <= 4; other++) {
                    due("road(" + other + ")", x.road(other), other == r ? hours : 2);
                }
            }
        }
    }

    private static void parishLeavesTheText() {
        sentence = "THE TEXT (that stays as it is)";
        OneRing x = parishOf("N9011111W00910");
        due("count(0)", x.count(0), 14);
        due("parish()", x.parish(), 1);
        x.write('W');
        due("fault()", x.fault(), 15);
        type(x, SIX);
        due("parish()", x.parish(), 6);
        due("parish()", x.parish(), 6);
        due("count(0)", x.count(0), 44);
        due("write", x.write('W'), 45);
    }

    private static void parishEmptiesTheActs() {
        sentence = "parish: THE ROW of ACTS is empty";
        OneRing x = parishOf(SIX);
        for (int n = 1; n <= 20; n++) {
            x.linger();
        }
        due("count(7)", x.count(7), 14);
        x.parish();
        due("count(7)", x.count(7), 0);
        due("undo()", x.undo(), STATE);
        due("count(3)", x.count(3), 0);
        x.linger();
        due("undo()", x.undo(), 0);
        due("count(3)", x.count(3), 0);
    }

    private static void parishForgetsWhatWasKept() {
        sentence = "parish: what was kept is gone";
        OneRing x = parishOf(SIX);
        x.keep(0);
        x.keep(1);
        x.parish();
        due("again(0)", x.again(0), STATE);
        due("again(1)", x.again(1), STATE);
        x.keep(1);
        due("again(0)", x.again(0), STATE);
        due("again(1)", x.again(1), 0);
    }

    private static void parishLeavesSeenAndSeed() {
        sentence = "parish: SEEN, THE SEED stay";
        OneRing x = parishOf(SIX);
        for (int n = 0; n <= 5; n++) {
            x.see(n, 5);
        }
        x.seed(Long.MIN_VALUE);
        x.parish();
        due("count(8)", x.count(8), 6);
        due("see, full", x.see(0, 0), FULL);
        due("rows(0, 0): the ring lies in 0, not in 5", x.rows(0, 0), 0);
        due("seed(0)", x.seed(0), Long.MIN_VALUE);
    }

    private static void parishMadeAnew() {
        sentence = "THE HOUR is 0, nobody is WED, when THE PARISH is made anew";
        OneRing x = parishOf("N9333333W20930");
        x.wed(0);
        x.linger();
        for (int r = 0; r <= 4; r++) {
            x.mend(r);
        }
        due("parish()", x.parish(), 1);
        int[] wants = {14, 1, 9, 0, 3, 0, 1, 0, 0};
        for (int what = 0; what < wants.length; what++) {
            due("count(" + what + ")", x.count(what), wants[what]);
        }
        for (int r = 0; r <= 4; r++) {
            due("road(" + r + ")", x.road(r), 3);
        }
        due("wedding(0, 5)", x.wedding(0, 5), 0);
    }

    private static void parishGrowsAndShrinks() {
        sentence = "A parish made anew has the WEDDINGS of its own text alone";
        OneRing x = parishOf(SIX);
        type(x, "N1500000");
        due("parish()", x.parish(), 0);
        due("count(6)", x.count(6), 0);
        due("wedding(0, 1)", x.wedding(0, 1), UNKNOWN);
        due("most(0)", x.most(0), 0);
        due("judge(1, 1)", x.judge(1, 1), 0);
        type(x, "N9500000W50011");
        due("parish()", x.parish(), 1);
        due("wedding(0, 4)", x.wedding(0, 4), 1);
        due("wedding(1, 4)", x.wedding(1, 4), UNKNOWN);
        type(x, SIX);
        due("parish()", x.parish(), 6);
        due("wedding(0, 4)", x.wedding(0, 4), 0);
    }
}
