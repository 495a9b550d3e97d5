import java.util.ArrayList;
import java.util.List;

/** No call throws or fails to end, and each answers what it may, for the widest arguments in states of all kinds. */
public final class AnyArguments {
    private static final int UNKNOWN = -1, OUTSIDE = -2, STATE = -3, FULL = -4, NONE = -9;
    private static final int MIN = Integer.MIN_VALUE, MAX = Integer.MAX_VALUE;
    private static final int[] ANY = {MIN, MIN + 1, -65536, -256, -10, -9, -2, -1, 0, 1, 2, 3, 4, 5, 6, 7, 8, 9, 10, 11,
        12, 21, 30, 31, 32, 48, 63, 64, 99, 123, 255, 256, 12345, 123456, 654321, 999999, 1000000, 65536, MAX - 1, MAX};
    private static final String[] TEXTS = {"", "N9011111", "N1000000W00010", "N9533333W50910W00911W31912W29933",
        "N9000000W00910W00911W00912W00913W00920W00930", "N9211111W05513W14420W20913W31331W40910W50912"};
    private static final int LAST_CALL = 512;

    private static int wrong = 0;
    private static int calls = 0;
    private static OneRing ring = new OneRing();
    private static String past = "";
    private static int age = 0;

    public static void main(String[] args) {
        for (String text : TEXTS) {
            for (int kind = 0; kind <= 4; kind++) {
                past = text + ", kind " + kind;
                everyCall(text, kind);
            }
        }
        longPastTheLastCall();
        System.out.println(wrong == 0 ? calls + " calls, all answers are as may be" : wrong + " answers are not");
        if (wrong != 0) {
            System.exit(1);
        }
    }

    /** The answer is a refusal that the call names, NONE if it may be, or a number from 0 to the last one. */
    private static void may(String call, int got, int last, int... others) {
        calls++;
        age++;
        boolean so = got >= 0 && got <= last;
        for (int other : others) {
            so |= got == other;
        }
        if (!so) {
            wrong++;
            System.out.println(past + ": " + call + " answered " + got);
        }
    }

    private static void begin(String text, int kind) {
        ring = new OneRing();
        for (int i = 0; i < text.length(); i++) {
            ring.write(text.charAt(i));
        }
        ring.parish();
        for (int i = 0; kind >= 1 && i < 5; i++) {
            ring.wed(kind == 1 ? i : 5 - i);
            ring.see(i, kind);
        }
        if (kind >= 3) {
            ring.carry(5);
            ring.keep(0);
            ring.mend(kind);
            ring.see(6, 5);
        }
        for (int i = 0; kind == 4 && i < 20; i++) {
            ring.linger();
            ring.write(i * 13);
        }
        age = 120;
    }

    /** An object that has been called some times is taken for a new one, so that it is no older than 512 calls. */
    private static void renew(String text, int kind) {
        if (age > LAST_CALL - 30) {
            begin(text, kind);
        }
    }

    private static void everyCall(String text, int kind) {
        begin(text, kind);
        for (int a : ANY) {
            ofOne(a);
            renew(text, kind);
            for (int b : ANY) {
                ofTwo(a, b);
                renew(text, kind);
                for (int c : ANY) {
                    may("rests", ring.rests(a, b, c), 11, UNKNOWN, OUTSIDE, STATE, NONE);
                    may("falls", ring.falls(a, b, c, true), 1000000, OUTSIDE, STATE);
                    int below = ring.falls(a, b, c, false);
                    may("falls", below, 1000000, OUTSIDE, STATE);
                    may("falls, below", below == 0 ? MIN : 0, 0);
                    renew(text, kind);
                }
            }
            begin(text, kind);
        }
        begin(text, kind);
        changes(text, kind);
    }

    private static void ofOne(int a) {
        may("fault", ring.fault(), 48, NONE);
        may("slack", ring.slack(), 9);
        may("mending", ring.mending(true), 6, NONE);
        may("mending", ring.mending(false), 4, NONE);
        may("road", ring.road(a), 3, UNKNOWN);
        may("most", ring.most(a), 654321, OUTSIDE);
        may("later", ring.later(a), 9, UNKNOWN, STATE, NONE);
        may("share", ring.share(a, true), 720, UNKNOWN);
        may("share, below", ring.share(a, false) == 0 ? MIN : 0, 0);
        may("summers", ring.summers(a), 30, OUTSIDE);
        may("count", ring.count(a), 10000, OUTSIDE);
    }

    private static void ofTwo(int a, int b) {
        may("wedding", ring.wedding(a, b), 9, UNKNOWN, OUTSIDE, NONE);
        may("way", ring.way(a, b), 15, UNKNOWN);
        may("judge", ring.judge(a, b), 5, OUTSIDE, NONE);
        may("rows", ring.rows(a, b), 720, OUTSIDE, NONE);
    }

    private static void changes(String text, int kind) {
        for (int a : ANY) {
            for (int b : new int[] {MIN, -1, 0, 3, 5, 6, MAX}) {
                may("write", ring.write(a), 48, OUTSIDE, FULL);
                may("wed", ring.wed(a), 10000, UNKNOWN, STATE);
                may("carry", ring.carry(a), 10000, UNKNOWN, STATE);
                may("linger", ring.linger(), 10000);
                may("mend", ring.mend(a), 2, UNKNOWN, STATE);
                may("see", ring.see(a, b), 6, UNKNOWN, OUTSIDE, FULL);
                may("undo", ring.undo(), 13, STATE);
                may("keep", ring.keep(a), 10000, UNKNOWN);
                may("again", ring.again(a), 10000, UNKNOWN, STATE);
                ring.seed(Long.MIN_VALUE + a);
                age++;
                may("summers", ring.summers(b), 30, OUTSIDE);
                may("count", ring.count(a), 10000, OUTSIDE);
                renew(text, kind);
            }
            may("unsee", ring.unsee(), 6);
            may("parish", ring.parish(), 6, STATE);
            may("wipe", ring.wipe(), 48);
            may("undo", ring.undo(), 13, STATE);
        }
    }

    /** What is answered then is free; that no call throws is not. */
    private static void longPastTheLastCall() {
        List<Integer> answers = new ArrayList<>();
        begin(TEXTS[5], 3);
        for (int i = 0; i < 200000; i++) {
            int a = i % 11 - 2;
            int answer = switch (i * 7 % 23) {
                case 0 -> ring.wed(a);
                case 1 -> ring.undo();
                case 2 -> ring.keep(a);
                case 3 -> ring.mend(a);
                case 4 -> ring.most(a);
                case 5 -> ring.slack();
                case 6 -> ring.share(a, true);
                case 7 -> ring.summers(a);
                case 8 -> ring.later(a);
                case 9 -> ring.write(a);
                case 10 -> ring.see(a, a);
                case 11 -> i % 1000 == 0 ? ring.again(a) : ring.count(a);
                case 12 -> ring.rests(a, 1, 1);
                case 13 -> ring.falls(2, 12, a, true);
                default -> i % 2 == 0 ? ring.carry(a) : ring.linger();
            };
            calls++;
            if (i < 100) {
                answers.add(answer);
            }
        }
        if (answers.size() != 100) {
            wrong++;
        }
    }
}
