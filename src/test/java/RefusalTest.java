/**
 * "A call with another STATUS than 0 gives NONE, or false, and changes nothing but STATUS (but house(),
 * years() with 10 the tape, and what fault() tells)": each call that can be refused, by each STATUS, is
 * made on one of two objects that are alike; all that they tell must be alike then, too. So are the
 * calls that only ask.
 */
public final class RefusalTest {
    private static final int LEAST = Integer.MIN_VALUE;
    private static final int MOST = Integer.MAX_VALUE;
    private static final String RICH = "power 4;odds 4;room a;room b;room c;room d;"
            + "wire u from a to b slack 1;wire v from b to c;wire w from d to c slack 2;"
            + "couple m he a she c love 3;couple n he b she d love 1;couple o he a she d love 5;";
    private static final String FULL = "power 99;odds 16;room a;room b;room c;room d;room e;room f;room g;room h;"
            + "wire p from a to b slack 9;wire q from b to c slack 9;wire r from c to d slack 9;"
            + "wire s from d to e slack 9;wire t from e to f slack 9;wire u from f to g slack 9;"
            + "wire v from g to h slack 9;wire w from h to a slack 9;wire x from a to c slack 9;wire y from b to d slack 9;"
            + "couple i he a she a love 9;couple j he b she b love 9;couple k he c she c love 9;"
            + "couple l he d she d love 9;couple m he e she e love 9;couple n he f she f love 9;";

    private static int tests = 0;
    private static int broken = 0;
    private static final long[] told = new long[600];
    private static int manyTold = 0;

    /** A call; a boolean's false counts as NONE. */
    private interface Call {
        long on(BellPullHouse x);
    }

    private interface State {
        BellPullHouse make();
    }

    public static void main(String[] args) {
        onEmpty();
        onRich();
        onFull();
        onFaulty();
        onParted();
        thatFault();
        onlyAsked("in a rich HOUSE", RefusalTest::rich, 0, 0, 1);
        onlyAsked("in a full HOUSE", RefusalTest::full, 5, 0, 7);
        System.out.println(tests + " calls that change nothing, " + broken + " broken");
        if (broken != 0) {
            System.exit(1);
        }
    }

    // ---- what a test is made of

    private static void feed(BellPullHouse x, String s) {
        for (int i = 0; i < s.length(); i += 20) {
            int[] five = new int[5];
            for (int j = 0; j < 20; j++) {
                five[j / 4] = five[j / 4] << 8 | (i + j < s.length() ? s.charAt(i + j) & 255 : ' ');
            }
            x.feed(five[0], five[1], five[2], five[3], five[4]);
        }
    }

    private static void house(BellPullHouse x, String s) {
        feed(x, s);
        x.house(s.length());
        if (x.status() != 0) {
            throw new IllegalStateException("a HOUSE that is refused: " + s);
        }
    }

    private static void years(BellPullHouse x, String s) {
        feed(x, s);
        x.years(s.length());
        if (x.status() != 0) {
            throw new IllegalStateException("YEARS that are refused: " + s);
        }
    }

    private static BellPullHouse empty() {
        return new BellPullHouse();
    }

    private static BellPullHouse rich() {
        BellPullHouse x = new BellPullHouse();
        house(x, RICH);
        years(x, "any;day 2;cut v;any;when rung m;damp;end;");
        x.tray(0, 0, 3);
        x.write(0, 0, 7);
        x.write(0, 2, -9);
        x.tray(1, 3, 2);
        x.write(1, 1, 1L << 40);
        x.tray(2, 0, 6);
        x.tray(3, 1, 0);
        x.lasts(0);
        x.mark();
        x.live(3);
        x.mark();
        x.damp(true);
        x.day(1);
        if (x.couple(1, 3) == 1) {
            x.divorce(1);
        }
        if (x.wire(1, 3) == 1) {
            x.cut(1);
        }
        x.mend(0);
        feed(x, "damp;day 3;");
        return x;
    }

    private static BellPullHouse full() {
        BellPullHouse x = new BellPullHouse();
        house(x, FULL);
        years(x, "loop 99;loop 99;loop 99;any;end;end;end;");
        x.mark();
        x.mark();
        x.mark();
        x.lasts(3);
        x.live(9999);
        for (int w = 0; w < 10; w++) {
            if (x.wire(w, 3) == 0) {
                x.mend(w);
            }
        }
        for (int i = 0; i < 101; i++) {
            x.day(99);
        }
        x.tray(3, 3, 60);
        x.write(3, 59, 5);
        x.tray(0, 0, 5);
        for (int i = 0; i < 45; i++) {
            feed(x, " dry ; stop ; damp; ");
        }
        return x;
    }

    private static BellPullHouse faulty() {
        BellPullHouse x = new BellPullHouse();
        house(x, "room a;room b;couple m he a she b love 2;");
        feed(x, "room a; room a;");
        x.house(15);
        return x;
    }

    private static BellPullHouse parted() {
        BellPullHouse x = new BellPullHouse();
        house(x, "room a;couple m he a she a love 5;couple n he a she a love 4;");
        years(x, "when parted m;day 3;end;");
        x.day(2);
        x.divorce(0);
        return x;
    }

    private static void tell(long answer) {
        told[manyTold] = answer;
        manyTold++;
    }

    private static void tell(BellPullHouse x, long answer) {
        tell(answer);
        tell(x.status());
    }

    /** All that is told of the HOUSE, TRAYS, the FRACTION, what was lived, YEARS, MARKS; it changes the object. */
    private static void tellAll(BellPullHouse x, boolean textsToo) {
        manyTold = 0;
        tell(x.top());
        tell(x.bottom());
        if (textsToo) {
            tell(x.fault(0));
            tell(x.fault(1));
        }
        for (int what = 0; what < 5; what++) {
            tell(x.lived(what));
        }
        tellHouse(x);
        for (int tray = 0; tray < 4; tray++) {
            for (int place : new int[] {0, 1, 2, 5, 59}) {
                tell(x, x.read(tray, place));
            }
            tell(x.pour(tray, 0, (tray + 1) % 4, 0, 0) ? 1 : x.status());
        }
        tellNamesAndTape(x, textsToo);
        int marks = x.back();
        while (marks >= 0) {
            tell(marks);
            tell(x.many(3));
            tell(x.many(5));
            tell(x.many(7));
            tell(x.many(10));
            tell(x.live(8));
            tell(x.many(7));
            marks = x.back();
        }
    }

    private static void tellHouse(BellPullHouse x) {
        for (int what = 0; what < 11; what++) {
            tell(x.many(what));
        }
        for (int w = 0; w < x.many(1); w++) {
            for (int what = 0; what < 4; what++) {
                tell(x.wire(w, what));
            }
        }
        for (int c = 0; c < x.many(2); c++) {
            for (int what = 0; what < 7; what++) {
                tell(x.couple(c, what));
            }
        }
        for (int r = 0; r < x.many(0); r++) {
            tell(x.far(0, r));
        }
    }

    private static void tellNamesAndTape(BellPullHouse x, boolean textsToo) {
        tell(x.live(77));
        tell(x.many(7));
        tell(x.many(10));
        if (textsToo) {
            int fed = x.feed(0x20202020, 0x20202020, 0x20202020, 0x20202020, 0x20202020);
            tell(fed);
            tell(x, x.years(fed < 0 ? 300 : fed));
            tell(x.fault(0));
            tell(x.live(5));
        }
        feed(x, "when rung m ; end ;");
        tell(x.feed(0, 0, 0, 0, 0));
        tell(x, x.years(19));
        tell(x.live(5));
    }

    private static void refuses(String where, State state, String words, int status, Call call) {
        refuses(where, state, words, status, call, true);
    }

    private static void refuses(String where, State state, String words, int status, Call call, boolean textsToo) {
        tests++;
        BellPullHouse x = state.make();
        long answer = call.on(x);
        int why = x.status();
        boolean leaves = leavesAll(state, x, textsToo);
        if (answer != -1 || why != status || !leaves) {
            broken++;
            System.out.println(where + ", " + words + ": answered " + answer + " by STATUS " + why + ", due is NONE by "
                    + status + (leaves ? "" : ", and that nothing changes"));
        }
    }

    /** A call that is done, but only asks. */
    private static void asks(String where, State state, String words, Call call) {
        tests++;
        BellPullHouse x = state.make();
        call.on(x);
        int why = x.status();
        boolean leaves = leavesAll(state, x, true);
        if (why != 0 || !leaves) {
            broken++;
            System.out.println(where + ", " + words + ": STATUS " + why + ", due is 0" + (leaves ? "" : ", and that nothing changes"));
        }
    }

    /** Whether all that it tells is as an object tells it on which no more was done. */
    private static boolean leavesAll(State state, BellPullHouse x, boolean textsToo) {
        tellAll(state.make(), textsToo);
        long[] due = java.util.Arrays.copyOf(told, manyTold);
        tellAll(x, textsToo);
        for (int i = 0; i < due.length && i < manyTold; i++) {
            if (due[i] != told[i]) {
                System.out.println("what is told as the " + i + "th is " + told[i] + ", was " + due[i]);
                return false;
            }
        }
        return due.length == manyTold;
    }

    private static long no(boolean answer) {
        return answer ? 1 : -1;
    }

    // ---- refused calls

    private static void onEmpty() {
        State s = RefusalTest::empty;
        String in = "in a new object";
        refuses(in, s, "tray, no such", 1, x -> no(x.tray(4, 0, 1)));
        refuses(in, s, "tray, no such sort", 1, x -> no(x.tray(0, 4, 1)));
        refuses(in, s, "tray, 61", 5, x -> no(x.tray(0, 0, 61)));
        refuses(in, s, "tray, -1", 6, x -> no(x.tray(0, 0, -1)));
        refuses(in, s, "write", 3, x -> no(x.write(0, 0, 1)));
        refuses(in, s, "read", 3, x -> x.read(0, 0));
        refuses(in, s, "pour", 3, x -> no(x.pour(0, 0, 1, 0, 0)));
        refuses(in, s, "house(1)", 5, x -> x.house(1));
        refuses(in, s, "house(-1)", 5, x -> x.house(-1));
        refuses(in, s, "years(1)", 5, x -> x.years(1));
        refuses(in, s, "years(-1)", 5, x -> x.years(-1));
        refuses(in, s, "many(11)", 5, x -> x.many(11));
        refuses(in, s, "wire", 2, x -> x.wire(0, 0));
        refuses(in, s, "couple", 2, x -> x.couple(0, 0));
        refuses(in, s, "copyLove", 3, x -> x.copyLove(0));
        refuses(in, s, "day", 5, x -> x.day(0));
        refuses(in, s, "damp", 9, x -> no(x.damp(false)));
        refuses(in, s, "cut", 2, x -> x.cut(0));
        refuses(in, s, "mend", 2, x -> x.mend(0));
        refuses(in, s, "stretch", 2, x -> no(x.stretch(0, 0)));
        refuses(in, s, "string", 2, x -> x.string(0, 1));
        refuses(in, s, "move", 2, x -> x.move(0, 0, 0));
        refuses(in, s, "wed", 2, x -> no(x.wed(0, 1)));
        refuses(in, s, "divorce", 2, x -> x.divorce(0));
        refuses(in, s, "rule", 5, x -> no(x.rule(3, 0)));
        refuses(in, s, "far", 2, x -> x.far(0, 0));
        refuses(in, s, "heard", 2, x -> x.heard(0));
        refuses(in, s, "rings", 2, x -> x.rings(0));
        refuses(in, s, "answers", 2, x -> x.answers(0));
        refuses(in, s, "way", 2, x -> x.way(0, 0, 0));
        refuses(in, s, "loveIn", 2, x -> x.loveIn(0, 0));
        refuses(in, s, "partsIn", 2, x -> x.partsIn(0));
        refuses(in, s, "silentIn", 2, x -> x.silentIn(0));
        refuses(in, s, "holdIn", 5, x -> x.holdIn(301));
        refuses(in, s, "mends", 5, x -> x.mends(1));
        refuses(in, s, "mendSet", 5, x -> x.mendSet(1));
        refuses(in, s, "cuts", 2, x -> x.cuts(0, 0));
        refuses(in, s, "cutSet", 2, x -> x.cutSet(0, 0));
        refuses(in, s, "hangs", 2, x -> x.hangs(0));
        refuses(in, s, "vital", 8, x -> x.vital());
        refuses(in, s, "pulled", 5, x -> x.pulled(1));
        refuses(in, s, "crossed", 2, x -> x.crossed(0));
        refuses(in, s, "pair", 2, x -> x.pair(0));
        refuses(in, s, "game", 5, x -> x.game(4));
        refuses(in, s, "moveOf", 8, x -> x.moveOf(1));
        refuses(in, s, "lasts", 2, x -> no(x.lasts(0)));
        refuses(in, s, "faith", 2, x -> no(x.faith(0)));
        refuses(in, s, "live", 8, x -> x.live(0));
        refuses(in, s, "lived", 8, x -> x.lived(0));
        refuses(in, s, "mean", 8, x -> no(x.mean(0, 1)));
        refuses(in, s, "back", 8, x -> x.back());
    }

    private static void onRich() {
        State s = RefusalTest::rich;
        String in = "in a rich HOUSE";
        refuses(in, s, "tray, no such", 1, x -> no(x.tray(-1, 0, 1)));
        refuses(in, s, "tray, no such sort", 1, x -> no(x.tray(0, -1, 1)));
        refuses(in, s, "tray, 61", 5, x -> no(x.tray(0, 0, 61)));
        refuses(in, s, "tray, -1", 6, x -> no(x.tray(0, 3, -1)));
        refuses(in, s, "write, no such TRAY", 1, x -> no(x.write(4, 0, 1)));
        refuses(in, s, "write, behind", 4, x -> no(x.write(0, 3, 1)));
        refuses(in, s, "write, ahead", 4, x -> no(x.write(0, -1, 1)));
        refuses(in, s, "write, no places", 4, x -> no(x.write(3, 0, 1)));
        refuses(in, s, "read", 1, x -> x.read(4, 0));
        refuses(in, s, "read", 4, x -> x.read(0, 3));
        refuses(in, s, "pour, no such TRAY", 1, x -> no(x.pour(0, 0, 4, 0, 1)));
        refuses(in, s, "pour, unlike sorts", 11, x -> no(x.pour(0, 0, 1, 0, 1)));
        refuses(in, s, "pour, below 0", 6, x -> no(x.pour(0, 0, 2, 0, -1)));
        refuses(in, s, "pour, too few to take", 4, x -> no(x.pour(0, 0, 2, 0, 4)));
        refuses(in, s, "pour, too few to put to", 4, x -> no(x.pour(2, 0, 0, 1, 3)));
        refuses(in, s, "pour, ahead of all", 4, x -> no(x.pour(0, -1, 2, 0, 1)));
        refuses(in, s, "house, more than the tape has", 5, x -> x.house(21));
        refuses(in, s, "house, below 0", 5, x -> x.house(LEAST));
        refuses(in, s, "years, more than the tape has", 5, x -> x.years(21));
        refuses(in, s, "years, below 0", 5, x -> x.years(-1));
        refuses(in, s, "many", 5, x -> x.many(-1));
        refuses(in, s, "wire", 2, x -> x.wire(3, 0));
        refuses(in, s, "wire", 5, x -> x.wire(0, 4));
        refuses(in, s, "couple", 2, x -> x.couple(3, 0));
        refuses(in, s, "couple", 5, x -> x.couple(0, 7));
        refuses(in, s, "copyLove, no such TRAY", 1, x -> x.copyLove(4));
        refuses(in, s, "copyLove, too few places", 4, x -> x.copyLove(1));
        refuses(in, s, "copyLove, no places", 4, x -> x.copyLove(3));
        refuses(in, s, "day(0)", 5, x -> x.day(0));
        refuses(in, s, "day(100)", 5, x -> x.day(100));
        refuses(in, s, "damp", 9, x -> no(x.damp(true)));
        refuses(in, s, "cut, no such", 2, x -> x.cut(3));
        refuses(in, s, "cut, it is cut", 9, x -> x.cut(1));
        refuses(in, s, "mend, no such", 2, x -> x.mend(-1));
        refuses(in, s, "mend, whole without SLACK", 9, x -> x.mend(0));
        refuses(in, s, "stretch, no such", 2, x -> no(x.stretch(3, 1)));
        refuses(in, s, "stretch, 10", 5, x -> no(x.stretch(0, 10)));
        refuses(in, s, "stretch, -1", 5, x -> no(x.stretch(1, -1)));
        refuses(in, s, "string, no such", 2, x -> x.string(0, 4));
        refuses(in, s, "string, to itself", 5, x -> x.string(2, 2));
        refuses(in, s, "move, no such COUPLE", 2, x -> x.move(3, 0, 1));
        refuses(in, s, "move, no such ROOM", 2, x -> x.move(0, 0, 4));
        refuses(in, s, "move, no such who", 5, x -> x.move(0, 2, 1));
        refuses(in, s, "move, he is there", 9, x -> x.move(0, 0, 0));
        refuses(in, s, "move, she is there", 9, x -> x.move(0, 1, 2));
        refuses(in, s, "wed, no such", 2, x -> no(x.wed(3, 1)));
        refuses(in, s, "wed, LOVE 0", 5, x -> no(x.wed(1, 0)));
        refuses(in, s, "wed, LOVE 10", 5, x -> no(x.wed(1, 10)));
        refuses(in, s, "divorce, no such", 2, x -> x.divorce(3));
        refuses(in, s, "divorce, PARTED", 9, x -> x.divorce(1));
        refuses(in, s, "rule, POWER 100", 5, x -> no(x.rule(3, 100)));
        refuses(in, s, "rule, ODDS 17", 5, x -> no(x.rule(4, 17)));
        refuses(in, s, "rule, what 5", 5, x -> no(x.rule(5, 1)));
        refuses(in, s, "far, no way", 8, x -> x.far(0, 3));
        refuses(in, s, "far, no such", 2, x -> x.far(0, 4));
        refuses(in, s, "heard", 2, x -> x.heard(4));
        refuses(in, s, "rings", 2, x -> x.rings(3));
        refuses(in, s, "way, no such", 2, x -> x.way(0, 4, 0));
        refuses(in, s, "way, no way", 8, x -> x.way(0, 3, 0));
        refuses(in, s, "way, no such place", 8, x -> x.way(0, 1, 2));
        refuses(in, s, "loveIn, no such", 2, x -> x.loveIn(3, 1));
        refuses(in, s, "loveIn, 301", 5, x -> x.loveIn(0, 301));
        refuses(in, s, "holdIn, 301", 5, x -> x.holdIn(301));
        refuses(in, s, "holdIn, -1", 5, x -> x.holdIn(-1));
        refuses(in, s, "partsIn, no such", 2, x -> x.partsIn(-1));
        refuses(in, s, "silentIn, no such", 2, x -> x.silentIn(-1));
        refuses(in, s, "mends, a set", 5, x -> x.mends(8));
        refuses(in, s, "mendSet, a set", 5, x -> x.mendSet(-1));
        refuses(in, s, "cuts, itself", 5, x -> x.cuts(1, 1));
        refuses(in, s, "cutSet, itself", 5, x -> x.cutSet(1, 1));
        refuses(in, s, "cuts, no such", 2, x -> x.cuts(1, 4));
        refuses(in, s, "cutSet, no such", 2, x -> x.cutSet(4, 1));
        refuses(in, s, "hangs, not RUNG", 9, x -> x.hangs(0));
        refuses(in, s, "hangs, no such", 2, x -> x.hangs(3));
        refuses(in, s, "pulled, a set", 5, x -> x.pulled(16));
        refuses(in, s, "crossed", 2, x -> x.crossed(4));
        refuses(in, s, "pair, no such", 2, x -> x.pair(3));
        refuses(in, s, "game", 5, x -> x.game(-1));
        refuses(in, s, "moveOf", 5, x -> x.moveOf(0));
        refuses(in, s, "lasts", 2, x -> no(x.lasts(3)));
        refuses(in, s, "faith", 2, x -> no(x.faith(3)));
        refuses(in, s, "live, -1", 5, x -> x.live(-1));
        refuses(in, s, "live, 10,000", 5, x -> x.live(10000));
        refuses(in, s, "lived", 5, x -> x.lived(5));
        refuses(in, s, "mean, 21", 5, x -> no(x.mean(0, 21)));
        refuses(in, s, "mean, beyond 9,999", 5, x -> no(x.mean(9981, 20)));
    }

    private static void onFull() {
        State s = RefusalTest::full;
        String in = "in a full HOUSE on DAY 9,999";
        refuses(in, s, "day(1)", 7, x -> x.day(1));
        refuses(in, s, "day(99)", 7, x -> x.day(99));
        refuses(in, s, "day(100)", 5, x -> x.day(100));
        refuses(in, s, "string, an 11th", 7, x -> x.string(0, 7));
        refuses(in, s, "string, to itself", 5, x -> x.string(7, 7));
        refuses(in, s, "mark, a fourth", 7, x -> x.mark());
        refuses(in, s, "house, 901", 5, x -> x.house(901));
        refuses(in, s, "house, the most", 5, x -> x.house(MOST));
        refuses(in, s, "years, 301", 5, x -> x.years(301));
        refuses(in, s, "years, 900", 5, x -> x.years(900));
        refuses(in, s, "write, the 61st place", 4, x -> no(x.write(3, 60, 1)));
        refuses(in, s, "copyLove, a place too few", 4, x -> x.copyLove(0));
        refuses(in, s, "pour, 61", 4, x -> no(x.pour(3, 0, 3, 0, 61)));
        refuses(in, s, "pour, wrapping around", 4, x -> no(x.pour(3, MOST, 3, 1, 2)));
        refuses(in, s, "wire", 2, x -> x.wire(10, 0));
        refuses(in, s, "couple", 2, x -> x.couple(6, 0));
        refuses(in, s, "damp", 9, x -> no(x.damp(false)));
        refuses(in, s, "mends", 5, x -> x.mends(64));
        refuses(in, s, "pulled", 5, x -> x.pulled(256));
        refuses(in, s, "feed, beyond 900", 0, x -> {
            x.damp(true);
            x.damp(false);
            return x.feed(1, 2, 3, 4, 5);
        });
        refuses(in, s, "fault(2)", 0, x -> {
            x.many(0);
            return x.fault(2);
        });
    }

    private static void onFaulty() {
        State s = RefusalTest::faulty;
        String in = "behind a FAULT";
        refuses(in, s, "house(1)", 5, x -> x.house(1));
        refuses(in, s, "years(1)", 5, x -> x.years(1));
        refuses(in, s, "years(301)", 5, x -> x.years(301));
        refuses(in, s, "mends", 8, x -> x.mends(1));
        refuses(in, s, "mendSet", 8, x -> x.mendSet(1));
        refuses(in, s, "answers", 8, x -> x.answers(0));
        refuses(in, s, "partsIn", 0, x -> x.partsIn(0) == 2 ? -1 : 0);
        refuses(in, s, "vital", 8, x -> x.vital());
        refuses(in, s, "pair", 8, x -> x.pair(0));
        refuses(in, s, "moveOf", 8, x -> x.moveOf(3));
        refuses(in, s, "faith", 8, x -> no(x.faith(0)));
        refuses(in, s, "live", 8, x -> x.live(0));
        refuses(in, s, "lived", 8, x -> x.lived(0));
        refuses(in, s, "mean", 8, x -> no(x.mean(0, 1)));
        refuses(in, s, "back", 8, x -> x.back());
    }

    private static void onParted() {
        State s = RefusalTest::parted;
        String in = "with a PARTED COUPLE";
        refuses(in, s, "answers", 9, x -> x.answers(0));
        refuses(in, s, "divorce", 9, x -> x.divorce(0));
        refuses(in, s, "wed", 5, x -> no(x.wed(0, 0)));
        refuses(in, s, "partsIn", 8, x -> x.partsIn(1));
        refuses(in, s, "silentIn", 8, x -> x.silentIn(0));
        refuses(in, s, "move", 9, x -> x.move(0, 1, 0));
        refuses(in, s, "string", 5, x -> x.string(0, 0));
    }

    private static void onlyAsked(String in, State s, int couple, int room, int other) {
        asks(in, s, "read", x -> x.read(0, 0));
        asks(in, s, "many", x -> x.many(9));
        asks(in, s, "wire", x -> x.wire(1, 2));
        asks(in, s, "couple", x -> x.couple(couple, 5));
        asks(in, s, "far", x -> x.far(room, other));
        asks(in, s, "heard", x -> x.heard(room));
        asks(in, s, "rings", x -> x.rings(couple));
        asks(in, s, "way", x -> x.way(room, other, 1));
        asks(in, s, "parts", x -> x.parts());
        asks(in, s, "loveIn", x -> x.loveIn(couple, 300));
        asks(in, s, "holdIn", x -> x.holdIn(300));
        asks(in, s, "partsIn", x -> {
            x.partsIn(couple);
            return x.many(0);
        });
        asks(in, s, "silentIn", x -> {
            x.silentIn(couple);
            return x.many(0);
        });
        asks(in, s, "mends", x -> x.mends(0));
        asks(in, s, "mendSet", x -> {
            x.mendSet(7);
            return x.many(0);
        });
        asks(in, s, "cuts", x -> x.cuts(room, other));
        asks(in, s, "cutSet", x -> x.cutSet(room, other));
        asks(in, s, "hangs", x -> {
            x.hangs(couple);
            return x.many(0);
        });
        asks(in, s, "vital", x -> x.vital());
        asks(in, s, "pulled", x -> x.pulled(3));
        asks(in, s, "crossed", x -> x.crossed(room));
        asks(in, s, "pair", x -> {
            x.pair(couple);
            return x.many(0);
        });
        asks(in, s, "swapped", x -> x.swapped());
        asks(in, s, "game", x -> x.game(3));
        asks(in, s, "moveOf", x -> x.moveOf(3));
        asks(in, s, "lived", x -> x.lived(4));
    }

    /** With 10 the tape and what fault() tells change, and nothing else. */
    private static void thatFault() {
        String[] houses = {"~", "room", "room a;room a;", "power 0;", "power 1;power 2;",
            "room a;room b;room c;room d;room e;room f;room g;room h;room i;", FULL + "couple o he a she a love 1;",
            "power 9;odds 9;room x;room y;wire u from x to y;couple z he x she y love 1;wire v from x to x;", RICH + RICH};
        for (String text : houses) {
            refuses("in a rich HOUSE", RefusalTest::richWithoutTape, "house() of " + text, 10, x -> {
                feed(x, text);
                return x.house(text.length());
            }, false);
            refuses("in a full HOUSE", RefusalTest::fullWithoutTape, "house() of " + text, 10, x -> {
                feed(x, text);
                return x.house(text.length());
            }, false);
        }
        String[] years = {"~", "day", "damp;day 1;cut u;mend v;stop;end;", "damp;cut none;", "day 41;", "loop 2;damp;",
            "damp;".repeat(31), "loop 1;loop 1;loop 1;loop 1;end;end;end;end;"};
        for (String text : years) {
            refuses("in a rich HOUSE", RefusalTest::richWithoutTape, "years() of " + text, 10, x -> {
                feed(x, text);
                return x.years(text.length());
            }, false);
            refuses("in a full HOUSE", RefusalTest::fullWithoutTape, "years() of " + text, 10, x -> {
                feed(x, text);
                return x.years(text.length());
            }, false);
        }
    }

    private static BellPullHouse richWithoutTape() {
        BellPullHouse x = rich();
        x.years(20);
        years(x, "any;day 2;cut v;any;when rung m;damp;end;");
        return x;
    }

    private static BellPullHouse fullWithoutTape() {
        BellPullHouse x = full();
        x.years(20);
        years(x, "loop 99;loop 99;loop 99;any;end;end;end;");
        return x;
    }
}
