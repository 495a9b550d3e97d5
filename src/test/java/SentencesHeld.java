import java.io.IOException;
import java.nio.file.Files;
import java.nio.file.Path;
import java.util.ArrayList;
import java.util.List;
import java.util.Map;
import java.util.TreeMap;
import java.util.regex.Pattern;

/**
 * Which functions of the tests hold which sentence of ../shared/DOC.md, from its first line to its last: each sentence
 * stands below as the document has it, behind it the functions, and each of those is there and is called.
 */
public final class SentencesHeld {
    private static final Path DOCUMENT = Path.of("../shared/DOC.md");
    private static final Path TESTS = Path.of("src/test/java");
    private static final String FREE = "-";

    /** A sentence; behind "=>" the functions that hold it, or "-": it promises nothing by itself. */
    private static final String HELD = """
        Nine weddings, one ring: this parish owns a single one, and nobody is married but with it, on the day, till sunset, told as a text with the first fault, letter by letter; churches in a row, roads between them, weddings by where they are, from when to when they may begin, how long, by kind, plain ones, thick fingers, late best men, hasty ones; wed, carried, waited, roads mended, all undone; which rows of weddings hold, most that can in a day, the first row of them, when it ends, how long one may wait; which road to mend; told rows judged; which rows it may have been, by where it lay at last; shares of weddings, two who choose, at rest; runners that fall by chance, summers by a seed; kept and gone on from.
        => -
        An object is used for at most 512 calls after it has been made; what later calls answer is free.
        => BoundaryActs.waitedPastSunset AnyArguments.longPastTheLastCall
        REFUSALS, of several the first that a call names: UNKNOWN (there is no such CHURCH, WEDDING, ROAD, SLOT), OUTSIDE (another number is not as told), STATE (as told), FULL.
        => BoundaryText.outsideBeforeFull BoundaryActs.unknownBeforeOutside BoundaryRows.seenRefusalsInTurn BoundaryChances.restsRefusalsInTurn BoundaryChances.fallsRefusalsInTurn BoundaryText.theConstants
        What is refused changes nothing.
        => UnchangedRuns.once BoundaryText.refusedLetters BoundaryText.parishRefusedChangesNothing BoundaryActs.refusedActs BoundaryChances.summersRefused
        NONE is -9.
        => BoundaryText.theConstants FaceOfTheDocument.theConstants
        FRACTIONS are told above (upper = true), below (1 and more), in least terms; refusals of them are told likewise.
        => BoundaryChances.shareInLeastTerms BoundaryChances.shareUnknown BoundaryChances.fallsByTenths BoundaryChances.fallsOfNoRow
        ==== 1 CHURCHES are 0 to 5 in a row, ROAD r (0 to 4) is between CHURCH r and r and 1.
        => BoundaryActs.churchesThereAre BoundaryActs.roadsThereAre BoundaryActs.waysBothWays
        THE TEXT is letters (48 at most).
        => BoundaryText.howLongTheTextIs BoundaryText.fullText
        A PARISH is a TEXT: N, SUNSET (1 to 9), a CHURCH (0 to 5) where the RING lies, then five figures (0 to 3: how many HOURS each ROAD is long), then WEDDINGS, none or more, numbered as they are told (6 at most):
        => BoundaryText.faultOfEachLetter BoundaryText.parishAtEachFigure BoundaryText.parishOfNoneAndSix BoundaryText.faultBehindSix BoundaryActs.figuresToTheirEnds
        Wpablk   a WEDDING in CHURCH p (0 to 5), that may begin from a to b (0 to 9, b no less than a), l (1 to 3) HOURS long, of KIND k: 0 PLAIN, 1 THICK, 2 LATE, 3 HASTY
        => BoundaryText.faultOfEachLetter BoundaryText.faultOfEachSpan BoundaryActs.figuresToTheirEnds
        FAULT: the place (from 0 on) of the first letter by which THE TEXT can be no PARISH, whatever came behind it (its length set aside); its length, if it is only not at its end; NONE: none.
        => BoundaryText.faultOfEachLetter BoundaryText.faultWhateverComesBehind BoundaryText.faultOfEachStart BoundaryText.faultOfFullText
        At first SUNSET is 9, the RING lies in CHURCH 0, all ROADS are 1 long, there are no WEDDINGS.
        => BoundaryText.firstSunset BoundaryText.firstRing BoundaryText.firstRoads BoundaryText.firstWeddings
        THE HOUR is 0, nobody is WED, when THE PARISH is made anew.
        => BoundaryText.firstHour BoundaryText.parishMadeAnew
        WAY from a CHURCH to another one: HOURS of all ROADS between them, together.
        => BoundaryActs.waysOfNoneAndAll BoundaryActs.waysBothWays
        A WEDDING BEGINS, if the RING lies in a CHURCH at an HOUR: at that HOUR and the WAY to its CHURCH (LATE: 1 more), or at a, if that is later.
        => BoundaryActs.beginsNow BoundaryActs.beginsAtTheWay BoundaryActs.beginsOneLaterIfLate BoundaryActs.beginsAtAIfLater
        It HOLDS, if it BEGINS at b or earlier, and ends (l HOURS later; HASTY: 1 HOUR less, 1 at least) at SUNSET or earlier.
        => BoundaryActs.holdsAtB BoundaryActs.holdsAtSunset BoundaryActs.hastyOneAtLeast
        Then the RING lies there at the HOUR of its end (THICK: 1 HOUR more).
        => BoundaryActs.thickOneMore BoundaryRows.endPastSunset
        WED: a WEDDING that is not WED, if it HOLDS.
        => BoundaryActs.wedAlready BoundaryActs.wedThatDoesNotHold BoundaryActs.wedAllSix
        CARRIED: the RING lies in another CHURCH, as many HOURS later as the WAY is.
        => BoundaryActs.carriedByTheWay BoundaryActs.carriedPastSunset
        WAITED: an HOUR later.
        => BoundaryActs.waited BoundaryActs.waitedPastSunset
        MENDED: a ROAD is 1 HOUR shorter.
        => BoundaryActs.mendedToNone BoundaryActs.mendedOneAlone
        ACTS (WED, CARRIED, WAITED, MENDED) are a row (14 at most; of more the first one is forgotten); the last one can be undone.
        => BoundaryActs.undoneEach BoundaryActs.fourteenActs BoundaryActs.fifteenActs BoundaryActs.manyActs BoundaryActs.actsBehindUndone BoundaryActs.noOtherActs
        ==== 2 In what follows nothing is changed.
        => UnchangedRuns.once BoundaryActs.noOtherActs
        A ROW of WEDDINGS (each once, such as are not WED) HOLDS, if each does behind those ahead of it, from now on, as things are now.
        => BoundaryRows.mostOfTheOthers BoundaryRows.rowsAsThingsAreNow BoundaryChances.shareAsThingsAreNow BoundaryChances.fallsAsThingsAreNow
        MOST: how many WEDDINGS are in the longest ROW that HOLDS; the first such ROW (as figures, 1 more each, the least as a number; 0: none); END: the least HOUR at which the RING can lie somewhere behind a ROW of MOST (the HOUR now: of none).
        => BoundaryRows.mostOfSix BoundaryRows.firstAsANumber BoundaryRows.mostOfNone BoundaryRows.endOfAnyRow BoundaryRows.endPastSunset
        SLACK: how many HOURS (0 to 9) one may WAIT now, so that MOST is as many as it is now.
        => BoundaryRows.slackOfNone BoundaryRows.slackToTheLastHour BoundaryRows.slackOfNineHours BoundaryRows.slackFromNow BoundaryRows.slackOfAnotherRow
        MEND: the ROAD by which, 1 HOUR shorter, MOST is most; of like ones the least: which; how many; NONE: no ROAD is longer than 0.
        => BoundaryRows.mendTheLastRoad BoundaryRows.mendOneHourAlone BoundaryRows.mendTheLeastOfLikeOnes BoundaryRows.mendNoRoad BoundaryRows.mendTheOnlyRoad
        JUDGED: n WEDDINGS (1 to 6) told as figures (1 more each, the first one's the highest; of fewer figures 0s are ahead: no WEDDING): the place (from 0 on) of the first that can not be (there is none such, it is WED already, it does not HOLD); NONE: none.
        => BoundaryRows.judgedOfSoMany BoundaryRows.judgedNoWedding BoundaryRows.judgedWed BoundaryRows.judgedThatDoesNotHold BoundaryRows.judgedOfSix
        LATER for a WEDDING: the last HOUR at which the RING may lie where it is so that it HOLDS next (0 to 9); NONE.
        => BoundaryRows.laterFromNoneToTheLast BoundaryRows.laterByB BoundaryRows.laterBySunset BoundaryRows.laterWhereItLies
        ==== 3 SEEN: that the RING lay in a CHURCH behind n WEDDINGS (0 to 6) from how it stands when ROWS are asked (not when it was told): 6 such at most, none at first.
        => BoundaryRows.seenWeddings BoundaryRows.seenChurches BoundaryRows.rowsBySeenOfNone BoundaryRows.seenFull BoundaryRows.rowsBySixSeen
        ROWS for n: ROWS of n WEDDINGS that HOLD from now on, by which all that is SEEN of no more than n WEDDINGS is so: how many; WEDDINGS (bits) in all; in none (those that are WED, too); NONE (of the latter two): there are none.
        => BoundaryRows.rowsOfSix BoundaryRows.rowsOfNoWedding BoundaryRows.rowsBySeenOfNoMore BoundaryRows.rowsBySeenOfSix BoundaryRows.rowsBySeenTwice BoundaryRows.rowsOfThoseNotWed BoundaryRows.rowsThereAreNone
        SHARE of a WEDDING that is not WED: if WEDDINGS that are not WED come one by one, in each order as likely: by how many in the mean MOST of those that have come is more when it has come than it was: a FRACTION; 0, if it is WED.
        => BoundaryChances.shareOfOneAlone BoundaryChances.shareBesideNone BoundaryChances.shareInLeastTerms BoundaryChances.shareOfThoseNotWed BoundaryChances.shareOfAWedOne PromiseRuns.shares
        RESTS of two WEDDINGS that are not WED: each couple asks to be the next one (1), or not (0): if one alone asks, that one is next, then the other one; if both or none do, the one with the lesser number is next, then the other one; a WEDDING that does not HOLD so changes nothing for the other one; one that HOLDS so brings 4 less how many HOURS later than now it BEGINS (0 at least), one that does not 0; asking costs 1: pairs in which neither has more by another choice alone: how many; the first (10 times the one and the other); NONE.
        => BoundaryChances.restsHowMany BoundaryChances.restsOfTheLesserNumber BoundaryChances.restsOfThoseThatDoNotHold BoundaryChances.restsByHoursLater BoundaryChances.restsNoLessThanNone BoundaryChances.restsFromNow BoundaryChances.restsAsThingsAreNow
        FALLS: on each WAY of 1 HOUR or more to a WEDDING of a ROW of n (1 to 6), the first one, too, the runner falls by x tenths (0 to 10), by itself, and the WAY is 1 HOUR longer then: that all of the ROW HOLD: a FRACTION.
        => BoundaryChances.fallsByTenths BoundaryChances.fallsNeverAndAlways BoundaryChances.fallsOnWays BoundaryChances.fallsOneHour BoundaryChances.fallsOfManyWays BoundaryChances.fallsOfARowThatDoesNotHold
        SUMMERS by THE SEED: m times (1 to 30) x (THE SEED, a long; 0 at first) becomes x times 6364136223846793005 and 1442695040888963407 (64 bits, wrapping); its upper 31 bits by 8, what is left: 0 to 5 that WEDDING is WED, if there is such a one, it is not, and HOLDS; 6 an HOUR is WAITED; 7 a new day: THE HOUR is 0 (the RING lies where it does, nobody is WED): how many were WED, all together.
        => BoundaryChances.seedsWrap BoundaryChances.summersOneByOne BoundaryChances.summersWed BoundaryChances.summersWaited BoundaryChances.summersNewDay BoundaryChances.summersFromNow PromiseRuns.summers
        (Nothing changes but THE SEED.)
        => BoundaryChances.summersChangeTheSeedAlone UnchangedRuns.once
        SLOTS 0 to 1 keep THE HOUR, where the RING lies, who is WED, ROADS (THE ROW of ACTS is empty when one goes on).
        => BoundaryChances.slotsThereAre BoundaryChances.slotsKeepAll BoundaryChances.slotsLeaveAllElse BoundaryChances.slotsAndActs
        Ahead of the calls `write`, `wipe`, `fault`, `parish`, `wedding`, `road`, `way` the interface says: ---- the parish.
        => FaceOfTheDocument.theHeadings
        Ahead of the calls `wed`, `carry`, `linger`, `mend`, `undo` the interface says: ---- acts.
        => FaceOfTheDocument.theHeadings
        Ahead of the calls `most`, `slack`, `mending`, `judge`, `later` the interface says: ---- rows.
        => FaceOfTheDocument.theHeadings
        Ahead of the calls `see`, `unsee`, `rows` the interface says: ---- seen.
        => FaceOfTheDocument.theHeadings
        Ahead of the calls `share`, `rests`, `falls`, `seed`, `summers` the interface says: ---- shares, rests, chances.
        => FaceOfTheDocument.theHeadings
        Ahead of the calls `keep`, `again`, `count` the interface says: ---- slots.
        => FaceOfTheDocument.theHeadings
        `OneRing()`: No weddings.
        => BoundaryText.firstWeddings BoundaryText.firstOfAllElse BoundaryText.newObjectsShareNothing PromiseRuns.aNewObject
        `int write(int letter)`: A letter (0 to 255) comes behind THE TEXT: how long it is.
        => BoundaryText.lettersAllowed BoundaryText.lettersAreWhole BoundaryText.howLongTheTextIs
        OUTSIDE; FULL: there are 48.
        => BoundaryText.lettersBelow BoundaryText.lettersAbove BoundaryText.fullText BoundaryText.outsideBeforeFull
        `int wipe()`: THE TEXT is empty: how long it was.
        => BoundaryText.wipeOfNone BoundaryText.wipeOfAll BoundaryText.wipeLeavesTheParish
        `int fault()`: FAULT; NONE.
        => BoundaryText.faultOfNone BoundaryText.faultOfEachStart BoundaryText.faultChangesNothing
        `int parish()`: THE TEXT (that stays as it is) is THE PARISH (THE ROW of ACTS is empty, what was kept is gone; SEEN, THE SEED stay): how many WEDDINGS.
        => BoundaryText.parishLeavesTheText BoundaryText.parishEmptiesTheActs BoundaryText.parishForgetsWhatWasKept BoundaryText.parishLeavesSeenAndSeed BoundaryText.parishOfNoneAndSix BoundaryText.parishGrowsAndShrinks
        STATE: a FAULT.
        => BoundaryText.parishOfAFault
        `int wedding(int wedding, int what)`: Of a WEDDING its CHURCH (what = 0), a (1), b (2), l (3), KIND (4), 1 if it is WED (5), when it would BEGIN now (6; NONE: it is WED, or does not HOLD).
        => BoundaryActs.whatIsAsked BoundaryActs.figuresToTheirEnds BoundaryActs.wedOrNot BoundaryActs.beginsNow
        UNKNOWN; OUTSIDE.
        => BoundaryActs.weddingsThereAre BoundaryActs.whatIsAsked BoundaryActs.unknownBeforeOutside
        `int road(int road)`: How long a ROAD is.
        => BoundaryActs.roadsToTheirEnds BoundaryText.parishAtEachFigure
        UNKNOWN.
        => BoundaryActs.roadsThereAre
        `int way(int church, int other)`: WAY.
        => BoundaryActs.waysOfNoneAndAll BoundaryActs.waysBothWays
        UNKNOWN: both.
        => BoundaryActs.churchesThereAre
        `int wed(int wedding)`: WED: THE HOUR then.
        => BoundaryActs.wedThen BoundaryActs.wedAllSix
        UNKNOWN; STATE: it is WED, or does not HOLD.
        => BoundaryActs.wedUnknown BoundaryActs.wedAlready BoundaryActs.wedThatDoesNotHold
        `int carry(int church)`: CARRIED: THE HOUR then.
        => BoundaryActs.carriedByTheWay BoundaryActs.carriedPastSunset
        UNKNOWN; STATE: it lies there.
        => BoundaryActs.carriedUnknown BoundaryActs.carriedWhereItLies
        `int linger()`: WAITED: THE HOUR then.
        => BoundaryActs.waited BoundaryActs.waitedPastSunset
        `int mend(int road)`: MENDED: how long it is then.
        => BoundaryActs.mendedToNone BoundaryActs.mendedOneAlone
        UNKNOWN; STATE: it is 0 long.
        => BoundaryActs.mendedUnknown BoundaryActs.mendedToNone
        `int undo()`: The last ACT is undone: how many are left.
        => BoundaryActs.undoneEach BoundaryActs.undoneToTheFirst BoundaryActs.undoneAlone
        STATE: there is none.
        => BoundaryActs.undoneNone
        `int most(int what)`: MOST: how many (what = 0), the first ROW (1), END (2).
        => BoundaryRows.mostOfWhat BoundaryRows.mostOfSix
        OUTSIDE.
        => BoundaryRows.mostOfWhat
        `int slack()`: SLACK.
        => BoundaryRows.slackToTheLastHour BoundaryRows.slackFromNow
        `int mending(boolean many)`: MEND: which ROAD (many = false), how many (many = true); NONE.
        => BoundaryRows.mendTheLastRoad BoundaryRows.mendNoRoad
        `int judge(int n, int row)`: JUDGED; NONE.
        => BoundaryRows.judgedOfSix BoundaryRows.judgedNoWedding
        OUTSIDE: n, row (0 or more, n figures at most).
        => BoundaryRows.judgedOfSoMany BoundaryRows.judgedFigures
        `int later(int wedding)`: LATER; NONE.
        => BoundaryRows.laterFromNoneToTheLast
        UNKNOWN; STATE: it is WED.
        => BoundaryRows.laterUnknown BoundaryRows.laterWed
        `int see(int n, int church)`: SEEN: how many there are.
        => BoundaryRows.seenFull BoundaryRows.seenChurches
        UNKNOWN: church; OUTSIDE: n; FULL: 6.
        => BoundaryRows.seenChurches BoundaryRows.seenWeddings BoundaryRows.seenFull BoundaryRows.seenRefusalsInTurn
        `int unsee()`: Nothing is SEEN: how much there was.
        => BoundaryRows.unseen
        `int rows(int n, int what)`: ROWS: how many (what = 0), in all (1), in none (2), as bits; NONE.
        => BoundaryRows.rowsOfSix BoundaryRows.rowsThereAreNone
        OUTSIDE: n (0 to 6), what.
        => BoundaryRows.rowsOfSoMany BoundaryRows.rowsOfWhat
        `int share(int wedding, boolean upper)`: SHARE.
        => BoundaryChances.shareInLeastTerms BoundaryChances.shareAsThingsAreNow
        UNKNOWN.
        => BoundaryChances.shareUnknown
        `int rests(int one, int other, int what)`: RESTS: how many (what = 0), the first (1); NONE.
        => BoundaryChances.restsHowMany
        UNKNOWN: both; OUTSIDE: both are one, what; STATE: one is WED.
        => BoundaryChances.restsUnknown BoundaryChances.restsOutside BoundaryChances.restsOfAWedOne BoundaryChances.restsRefusalsInTurn
        `int falls(int n, int row, int x, boolean upper)`: FALLS.
        => BoundaryChances.fallsOfManyWays BoundaryChances.fallsByTenths
        OUTSIDE: n, row, x; STATE: the ROW is not of WEDDINGS that there are, each once, such as are not WED.
        => BoundaryChances.fallsOfSoMany BoundaryChances.fallsOfFigures BoundaryChances.fallsByTenths BoundaryChances.fallsOfNoRow BoundaryChances.fallsRefusalsInTurn
        `long seed(long v)`: THE SEED is v: what it was.
        => BoundaryChances.seedsToTheirEnds
        `int summers(int m)`: SUMMERS.
        => BoundaryChances.summersWed BoundaryChances.summersNewDay
        OUTSIDE: m.
        => BoundaryChances.summersOfSoMany BoundaryChances.summersRefused
        `int keep(int slot)`: They are kept: THE HOUR.
        => BoundaryChances.slotsOfTwo BoundaryChances.slotsKeepAll
        UNKNOWN.
        => BoundaryChances.slotsThereAre
        `int again(int slot)`: They are as they were kept: THE HOUR.
        => BoundaryChances.slotsKeepAll BoundaryChances.slotsOfTwo
        UNKNOWN; STATE: none were kept.
        => BoundaryChances.slotsThereAre BoundaryChances.slotsOfNone
        `int count(int what)`: 0 letters of THE TEXT, 1 WEDDINGS, 2 SUNSET, 3 THE HOUR, 4 where the RING lies, 5 who is WED (bits), 6 WEDDINGS that would HOLD next (bits), 7 ACTS in the row, 8 SEEN.
        => BoundaryChances.countsOfNone BoundaryChances.countsOfAll PromiseRuns.counts
        OUTSIDE.
        => BoundaryChances.countsThereAre
        How the state is held inside the object is free, as are the speed of each call, the text of toString and the behaviour of equals and hashCode.
        => -
        Use of one object from several threads at once is not promised to be safe.
        => -
        Nothing is promised beyond the answers and state changes described above, and nothing about an object after its 512th call.
        => -
        """;

    private static final Map<String, String> SOURCES = new TreeMap<>();

    private static int wrong = 0;

    public static void main(String[] args) throws IOException {
        List<String> sentences = new ArrayList<>();
        String[] lines = HELD.split("\n");
        for (int i = 0; i + 1 < lines.length; i += 2) {
            sentences.add(lines[i]);
            heldBy(lines[i], lines[i + 1]);
        }
        same(sentences, sentencesOf(Files.readString(DOCUMENT)));
        System.out.println(wrong == 0 ? sentences.size() + " sentences are held" : wrong + " sentences are not held");
        if (wrong != 0) {
            System.exit(1);
        }
    }

    private static void fails(String sentence, String why) {
        wrong++;
        System.out.println(why + ": " + sentence);
    }

    /** All but headings and the face, which FaceOfTheDocument holds. */
    private static List<String> sentencesOf(String document) {
        String[] parts = document.split("```java\n|```text\n|```\n");
        List<String> all = new ArrayList<>();
        for (String part : parts) {
            if (part.startsWith("public final class OneRing {")) {
                continue;
            }
            for (String line : part.split("\n")) {
                if (!line.isBlank() && !line.startsWith("#")) {
                    all.addAll(List.of(line.trim().split("(?<=\\.) ")));
                }
            }
        }
        return all;
    }

    private static void same(List<String> told, List<String> due) {
        for (int i = 0; i < Math.max(told.size(), due.size()); i++) {
            String is = i < told.size() ? told.get(i) : "";
            String of = i < due.size() ? due.get(i) : "";
            if (!is.equals(of)) {
                fails(of, "not told in its turn, but \"" + is + "\"");
                return;
            }
        }
    }

    private static void heldBy(String sentence, String line) throws IOException {
        if (!line.startsWith("=> ")) {
            fails(sentence, "no functions");
            return;
        }
        for (String one : line.substring(3).split(" ")) {
            if (!one.equals(FREE) && !isCalled(one)) {
                fails(sentence, one + " is not there, or is not called");
            }
        }
    }

    private static boolean isCalled(String name) throws IOException {
        int dot = name.indexOf('.');
        Path file = TESTS.resolve(name.substring(0, Math.max(0, dot)) + ".java");
        if (dot < 0 || !Files.exists(file)) {
            return false;
        }
        if (!SOURCES.containsKey(file.toString())) {
            SOURCES.put(file.toString(), Files.readString(file));
        }
        String source = SOURCES.get(file.toString());
        String function = name.substring(dot + 1);
        boolean there = Pattern.compile("private static void " + function + "\\(").matcher(source).find();
        boolean called = Pattern.compile("(?m)^ +" + function + "\\(.*\\);$").matcher(source).find();
        return there && called;
    }
}
