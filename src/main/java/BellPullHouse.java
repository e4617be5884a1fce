import java.util.Arrays;

/** A house in which marriages are bell pulls; README.md says how to use it. */
public final class BellPullHouse {
    public static final int NONE = -1;

    private static final int NO_SUCH_TRAY = 1;
    private static final int NO_SUCH_THING = 2;
    private static final int TRAY_IS_MISSING = 3;
    private static final int NO_SUCH_PLACE = 4;
    private static final int BAD_NUMBER = 5;
    private static final int BELOW_NOUGHT = 6;
    private static final int ONE_TOO_MANY = 7;
    private static final int THERE_IS_NONE = 8;
    private static final int IT_CAN_NOT_BE = 9;
    private static final int A_FAULT = 10;
    private static final int UNLIKE_SORTS = 11;

    private static final int MOST_TRAYS = 4;
    private static final int MOST_SORTS = 4;
    private static final int MOST_PLACES = 60;
    private static final int MOST_TAPE = 900;
    private static final int MOST_YEARS_TEXT = 300;
    private static final int MOST_ROOMS = 8;
    private static final int MOST_WIRES = 10;
    private static final int MOST_COUPLES = 6;
    private static final int MOST_POWER = 99;
    private static final int MOST_ODDS = 16;
    private static final int MOST_SLACK = 9;
    private static final int MOST_LOVE = 9;
    private static final int MOST_DAYS_AT_ONCE = 99;
    private static final int LAST_DAY = 9999;
    private static final int MOST_DAYS_AHEAD = 300;
    private static final int LAST_SEED = 9999;
    private static final int MOST_SEEDS = 20;
    private static final int MOST_TURNS = 3;
    private static final int MOST_MARKS = 3;
    private static final int MOST_STEPS = 30;
    private static final int MOST_DEPTH = 3;
    private static final int MOST_STEPS_LIVED = 300;
    private static final int MOST_DAYS_A_STEP = 40;
    private static final int MOST_LOOP_TURNS = 99;
    private static final int FIRST_POWER = 8;
    private static final int FIRST_ODDS = 2;

    /** Longer than any way can be (seven wires of ten), and safe to add to itself. */
    private static final int NO_WAY = 1000;

    private static final int W_POWER = 0;
    private static final int W_ODDS = 1;
    private static final int W_ROOM = 2;
    private static final int W_WIRE = 3;
    private static final int W_FROM = 4;
    private static final int W_TO = 5;
    private static final int W_SLACK = 6;
    private static final int W_COUPLE = 7;
    private static final int W_HE = 8;
    private static final int W_SHE = 9;
    private static final int W_LOVE = 10;
    private static final int W_DAY = 11;
    private static final int W_DAMP = 12;
    private static final int W_DRY = 13;
    private static final int W_MEND = 14;
    private static final int W_CUT = 15;
    private static final int W_ANY = 16;
    private static final int W_WHEN = 17;
    private static final int W_RUNG = 18;
    private static final int W_PARTED = 19;
    private static final int W_LOOP = 20;
    private static final int W_END = 21;
    private static final int W_STOP = 22;
    private static final int MANY_KEYWORDS = 23;

    /** In the order of the numbers above; each word is closed by a blank. */
    private static final String KEYWORDS =
            "power odds room wire from to slack couple he she love day damp dry mend cut any when rung parted loop end stop ";

    private static final int FAULT_TOKEN = 1;
    private static final int FAULT_PLACE = 2;
    private static final int FAULT_NAME = 3;
    private static final int FAULT_NUMBER = 4;
    private static final int FAULT_TWICE = 5;
    private static final int FAULT_MANY = 6;
    private static final int FAULT_DEPTH = 7;

    private int status = 0;
    private long top = 0;
    private long bottom = 1;
    private final Tray[] trays = new Tray[MOST_TRAYS];
    private int fault = NONE;
    private int faultPlace = NONE;
    private final Tokens tape = new Tokens();
    private final House house = new House();
    private final House trial = new House();
    private final Years years = new Years();
    private final Years trialYears = new Years();
    private final House[] markedHouses = new House[MOST_MARKS];
    private final Years[] markedYears = new Years[MOST_MARKS];
    private int marks = 0;
    private final Days days = new Days();
    private final Wiring wiring = new Wiring();
    private final Pairs pairs = new Pairs();
    private final Life life = new Life();
    private final int[] lastLife = new int[Life.MANY_TOLD];
    private boolean hasLived = false;

    public BellPullHouse() {
        for (int i = 0; i < MOST_TRAYS; i++) {
            trays[i] = new Tray();
        }
        for (int i = 0; i < MOST_MARKS; i++) {
            markedHouses[i] = new House();
            markedYears[i] = new Years();
        }
    }

    public int status() {
        return status;
    }

    public long top() {
        return top;
    }

    public long bottom() {
        return bottom;
    }

    // ---- TRAYS

    public boolean tray(int tray, int sort, int many) {
        if (!isTray(tray) || sort < 0 || sort >= MOST_SORTS) {
            return refuse(NO_SUCH_TRAY);
        }
        if (many > MOST_PLACES) {
            return refuse(BAD_NUMBER);
        }
        if (many < 0) {
            return refuse(BELOW_NOUGHT);
        }
        trays[tray].make(sort, many);
        return agree();
    }

    public boolean write(int tray, int place, long v) {
        int wrong = wrongPlace(tray, place);
        if (wrong != 0) {
            return refuse(wrong);
        }
        trays[tray].put(place, v);
        return agree();
    }

    public long read(int tray, int place) {
        int wrong = wrongPlace(tray, place);
        if (wrong != 0) {
            return fail(wrong);
        }
        status = 0;
        return trays[tray].get(place);
    }

    public boolean pour(int tray, int i, int to, int j, int many) {
        if (!isTray(tray) || !isTray(to)) {
            return refuse(NO_SUCH_TRAY);
        }
        Tray source = trays[tray];
        Tray target = trays[to];
        if (!source.made || !target.made) {
            return refuse(TRAY_IS_MISSING);
        }
        if (source.sort != target.sort) {
            return refuse(UNLIKE_SORTS);
        }
        if (many < 0) {
            return refuse(BELOW_NOUGHT);
        }
        if (!source.hasRow(i, many) || !target.hasRow(j, many)) {
            return refuse(NO_SUCH_PLACE);
        }
        System.arraycopy(source.row, i, target.row, j, many);
        return agree();
    }

    private static boolean isTray(int tray) {
        return tray >= 0 && tray < MOST_TRAYS;
    }

    /** The STATUS that speaks against a place of a TRAY, 0 if none does. */
    private int wrongPlace(int tray, int place) {
        if (!isTray(tray)) {
            return NO_SUCH_TRAY;
        }
        if (!trays[tray].made) {
            return TRAY_IS_MISSING;
        }
        return trays[tray].hasRow(place, 1) ? 0 : NO_SUCH_PLACE;
    }

    // ---- texts

    public int feed(int a, int b, int c, int d, int e) {
        if (tape.fed + 20 > MOST_TAPE) {
            return NONE;
        }
        tape.feedInt(a);
        tape.feedInt(b);
        tape.feedInt(c);
        tape.feedInt(d);
        tape.feedInt(e);
        return tape.fed;
    }

    public int house(int n) {
        if (n < 0 || n > tape.fed) {
            return fail(BAD_NUMBER);
        }
        boolean taken = HouseReader.readHouse(tape, trial, n);
        keepFault();
        if (!taken) {
            return fail(A_FAULT);
        }
        house.copyFrom(trial);
        years.forget();
        return answer(house.couples);
    }

    public int years(int n) {
        if (n < 0 || n > tape.fed || n > MOST_YEARS_TEXT) {
            return fail(BAD_NUMBER);
        }
        boolean taken = YearsReader.readYears(tape, house, trialYears, n);
        keepFault();
        if (!taken) {
            return fail(A_FAULT);
        }
        years.copyFrom(trialYears);
        return answer(years.steps);
    }

    private void keepFault() {
        tape.fed = 0;
        fault = tape.fault;
        faultPlace = tape.faultPlace;
    }

    public int fault(int what) {
        switch (what) {
            case 0:
                return fault;
            case 1:
                return faultPlace;
            default:
                return NONE;
        }
    }

    public int many(int what) {
        switch (what) {
            case 0:
                return answer(house.rooms);
            case 1:
                return answer(house.wires);
            case 2:
                return answer(house.couples);
            case 3:
                return answer(house.power);
            case 4:
                return answer(house.odds);
            case 5:
                return answer(house.day);
            case 6:
                return answer(house.damp ? 1 : 0);
            case 7:
                return answer(house.whole);
            case 8:
                return answer(house.holds);
            case 9:
                return answer(house.rungSet());
            case 10:
                return answer(house.loveTogether());
            default:
                return fail(BAD_NUMBER);
        }
    }

    public int wire(int wire, int what) {
        if (!house.isWire(wire)) {
            return fail(NO_SUCH_THING);
        }
        switch (what) {
            case 0:
                return answer(house.from[wire]);
            case 1:
                return answer(house.to[wire]);
            case 2:
                return answer(house.slack[wire]);
            case 3:
                return answer(house.isWhole(wire) ? 1 : 0);
            default:
                return fail(BAD_NUMBER);
        }
    }

    public int couple(int couple, int what) {
        if (!house.isCouple(couple)) {
            return fail(NO_SUCH_THING);
        }
        switch (what) {
            case 0:
                return answer(house.he[couple]);
            case 1:
                return answer(house.she[couple]);
            case 2:
                return answer(house.love[couple]);
            case 3:
                return answer(house.isHolding(couple) ? 1 : 0);
            case 4:
                return answer(house.isRung(couple) ? 1 : 0);
            case 5:
                return answer(house.ownDays[couple]);
            case 6:
                return answer(house.otherDays[couple]);
            default:
                return fail(BAD_NUMBER);
        }
    }

    public int copyLove(int tray) {
        if (!isTray(tray)) {
            return fail(NO_SUCH_TRAY);
        }
        if (!trays[tray].made) {
            return fail(TRAY_IS_MISSING);
        }
        if (!trays[tray].hasRow(0, house.couples)) {
            return fail(NO_SUCH_PLACE);
        }
        for (int c = 0; c < house.couples; c++) {
            trays[tray].put(c, house.love[c]);
        }
        return answer(house.couples);
    }

    // ---- what is done

    public int day(int days) {
        if (days < 1 || days > MOST_DAYS_AT_ONCE) {
            return fail(BAD_NUMBER);
        }
        if (house.day + days > LAST_DAY) {
            return fail(ONE_TOO_MANY);
        }
        return answer(this.days.pass(house, days));
    }

    public boolean damp(boolean is) {
        if (house.damp == is) {
            return refuse(IT_CAN_NOT_BE);
        }
        house.damp = is;
        return agree();
    }

    public int cut(int wire) {
        if (!house.isWire(wire)) {
            return fail(NO_SUCH_THING);
        }
        if (!house.isWhole(wire)) {
            return fail(IT_CAN_NOT_BE);
        }
        house.cutWire(wire);
        return answer(house.slack[wire]);
    }

    public int mend(int wire) {
        if (!house.isWire(wire)) {
            return fail(NO_SUCH_THING);
        }
        if (!house.isMendable(wire)) {
            return fail(IT_CAN_NOT_BE);
        }
        int ahead = house.slack[wire];
        house.mendWire(wire);
        return answer(ahead);
    }

    public boolean stretch(int wire, int slack) {
        if (!house.isWire(wire)) {
            return refuse(NO_SUCH_THING);
        }
        if (slack < 0 || slack > MOST_SLACK) {
            return refuse(BAD_NUMBER);
        }
        house.setSlack(wire, slack);
        return agree();
    }

    public int string(int room, int other) {
        if (!house.isRoom(room) || !house.isRoom(other)) {
            return fail(NO_SUCH_THING);
        }
        if (room == other) {
            return fail(BAD_NUMBER);
        }
        if (house.wires >= MOST_WIRES) {
            return fail(ONE_TOO_MANY);
        }
        house.addWire(room, other, 0);
        return answer(house.wires - 1);
    }

    public int move(int couple, int who, int room) {
        if (!house.isCouple(couple) || !house.isRoom(room)) {
            return fail(NO_SUCH_THING);
        }
        if (who != 0 && who != 1) {
            return fail(BAD_NUMBER);
        }
        int[] where = who == 0 ? house.he : house.she;
        int ahead = where[couple];
        if (ahead == room) {
            return fail(IT_CAN_NOT_BE);
        }
        where[couple] = room;
        return answer(ahead);
    }

    public boolean wed(int couple, int love) {
        if (!house.isCouple(couple)) {
            return refuse(NO_SUCH_THING);
        }
        if (love < 1 || love > MOST_LOVE) {
            return refuse(BAD_NUMBER);
        }
        house.love[couple] = love;
        house.holds |= 1 << couple;
        return agree();
    }

    public int divorce(int couple) {
        if (!house.isCouple(couple)) {
            return fail(NO_SUCH_THING);
        }
        if (!house.isHolding(couple)) {
            return fail(IT_CAN_NOT_BE);
        }
        int ahead = house.love[couple];
        house.love[couple] = 0;
        house.holds &= ~(1 << couple);
        return answer(ahead);
    }

    public boolean rule(int what, int much) {
        if (what == 3 && much >= 1 && much <= MOST_POWER) {
            house.power = much;
            return agree();
        }
        if (what == 4 && much >= 0 && much <= MOST_ODDS) {
            house.odds = much;
            return agree();
        }
        return refuse(BAD_NUMBER);
    }

    // ---- who hears whom

    public int far(int room, int other) {
        if (!house.isRoom(room) || !house.isRoom(other)) {
            return fail(NO_SUCH_THING);
        }
        int length = house.distance(room, other);
        return length < NO_WAY ? answer(length) : fail(THERE_IS_NONE);
    }

    public int heard(int room) {
        return house.isRoom(room) ? answer(house.heardSet(room)) : fail(NO_SUCH_THING);
    }

    public int rings(int couple) {
        if (!house.isCouple(couple)) {
            return fail(NO_SUCH_THING);
        }
        int set = 0;
        for (int c = 0; c < house.couples; c++) {
            if (house.distance(house.he[couple], house.she[c]) <= house.power) {
                set |= 1 << c;
            }
        }
        return answer(set);
    }

    public int answers(int couple) {
        if (!house.isCouple(couple)) {
            return fail(NO_SUCH_THING);
        }
        // The lower STATUS goes first: where no pull is heard at all, 8 comes ahead of 9.
        int whom = house.answerOf(couple);
        if (whom == NONE) {
            return fail(THERE_IS_NONE);
        }
        return house.isHolding(couple) ? answer(whom) : fail(IT_CAN_NOT_BE);
    }

    public int way(int room, int other, int k) {
        if (!house.isRoom(room) || !house.isRoom(other)) {
            return fail(NO_SUCH_THING);
        }
        if (k < 0 || k >= MOST_ROOMS || house.distance(room, other) >= NO_WAY) {
            return fail(THERE_IS_NONE);
        }
        int at = room;
        for (int i = 0; i < k; i++) {
            if (at == other) {
                return fail(THERE_IS_NONE);
            }
            at = house.nextOnWay(at, other);
        }
        return answer(at);
    }

    public int parts() {
        int many = 0;
        for (int r = 0; r < house.rooms; r++) {
            if (house.isFirstOfPart(r)) {
                many++;
            }
        }
        return answer(many);
    }

    // ---- DAYS ahead

    public int loveIn(int couple, int days) {
        if (!house.isCouple(couple)) {
            return fail(NO_SUCH_THING);
        }
        if (days < 0 || days > MOST_DAYS_AHEAD) {
            return fail(BAD_NUMBER);
        }
        lookAhead(days);
        return answer(trial.love[couple]);
    }

    public int partsIn(int couple) {
        if (!house.isCouple(couple)) {
            return fail(NO_SUCH_THING);
        }
        trial.copyFrom(house);
        int gone = 0;
        for (int span = 0; span < MOST_DAYS_AHEAD && trial.isHolding(couple); span++) {
            days.passSpan(trial, MOST_DAYS_AHEAD - gone);
            gone = trial.day - house.day;
        }
        return trial.isHolding(couple) ? fail(THERE_IS_NONE) : answer(gone);
    }

    public int silentIn(int couple) {
        if (!house.isCouple(couple)) {
            return fail(NO_SUCH_THING);
        }
        // Of all that a DAY does, only the stretching bears upon who is RUNG.
        trial.copyFrom(house);
        int gone = 0;
        while (gone < MOST_DAYS_AHEAD && trial.isRung(couple) && trial.isStretching()) {
            trial.stretchAll();
            gone++;
        }
        return trial.isRung(couple) ? fail(THERE_IS_NONE) : answer(gone);
    }

    public int holdIn(int days) {
        if (days < 0 || days > MOST_DAYS_AHEAD) {
            return fail(BAD_NUMBER);
        }
        lookAhead(days);
        return answer(trial.holds);
    }

    private void lookAhead(int howFar) {
        trial.copyFrom(house);
        days.pass(trial, howFar);
    }

    // ---- WIRES

    public int mends(int couples) {
        int set = fewestMends(couples);
        return set == NONE ? NONE : answer(Integer.bitCount(set));
    }

    public int mendSet(int couples) {
        int set = fewestMends(couples);
        return set == NONE ? NONE : answer(set);
    }

    /** The least set of fewest WIRES; NONE, with the STATUS told, where there is none. */
    private int fewestMends(int couples) {
        if (couples < 0 || couples >= 1 << house.couples) {
            return fail(BAD_NUMBER);
        }
        int set = wiring.leastMends(house, couples);
        return set == NONE ? fail(THERE_IS_NONE) : set;
    }

    public int cuts(int room, int other) {
        int set = fewestCuts(room, other);
        return set == NONE ? NONE : answer(Integer.bitCount(set));
    }

    public int cutSet(int room, int other) {
        int set = fewestCuts(room, other);
        return set == NONE ? NONE : answer(set);
    }

    /** The least set of fewest WIRES; NONE, with the STATUS told, where the ROOMS can't be. */
    private int fewestCuts(int room, int other) {
        if (!house.isRoom(room) || !house.isRoom(other)) {
            return fail(NO_SUCH_THING);
        }
        return room == other ? fail(BAD_NUMBER) : wiring.leastCuts(house, room, other);
    }

    public int hangs(int couple) {
        if (!house.isCouple(couple)) {
            return fail(NO_SUCH_THING);
        }
        return house.isRung(couple) ? answer(wiring.hangSet(house, couple)) : fail(IT_CAN_NOT_BE);
    }

    public int vital() {
        int wire = wiring.mostHungOn(house);
        return wire == NONE ? fail(THERE_IS_NONE) : answer(wire);
    }

    // ---- who pulled, who pairs

    public int pulled(int rooms) {
        if (rooms < 0 || rooms >= 1 << house.rooms) {
            return fail(BAD_NUMBER);
        }
        int set = 0;
        for (int r = 0; r < house.rooms; r++) {
            if (house.heardSet(r) == rooms) {
                set |= 1 << r;
            }
        }
        return answer(set);
    }

    public int crossed(int room) {
        if (!house.isRoom(room)) {
            return fail(NO_SUCH_THING);
        }
        int set = 0;
        for (int c = 0; c < house.couples; c++) {
            boolean hears = house.distance(room, house.she[c]) <= house.power;
            if (hears && house.isHolding(c) && house.answersAnother(c)) {
                set |= 1 << c;
            }
        }
        return answer(set);
    }

    public int pair(int couple) {
        if (!house.isCouple(couple)) {
            return fail(NO_SUCH_THING);
        }
        pairs.findAll(house);
        int whose = pairs.sheOf[couple];
        return whose == NONE ? fail(THERE_IS_NONE) : answer(whose);
    }

    public int swapped() {
        pairs.findAll(house);
        int many = 0;
        for (int c = 0; c < house.couples; c++) {
            if (pairs.sheOf[c] != NONE && pairs.sheOf[c] != c) {
                many++;
            }
        }
        return answer(many);
    }

    // ---- games, odds

    public int game(int turns) {
        if (turns < 0 || turns > MOST_TURNS) {
            return fail(BAD_NUMBER);
        }
        wiring.playOut(house, turns);
        return answer(wiring.gameValue);
    }

    public int moveOf(int turns) {
        if (turns < 1 || turns > MOST_TURNS) {
            return fail(BAD_NUMBER);
        }
        wiring.playOut(house, turns);
        return wiring.firstMove == NONE ? fail(THERE_IS_NONE) : answer(wiring.firstMove);
    }

    public boolean lasts(int couple) {
        if (!house.isCouple(couple)) {
            return refuse(NO_SUCH_THING);
        }
        tell(wiring.lastingSixteenths(house, couple),
                Wiring.toThePower(MOST_ODDS, Integer.bitCount(house.whole)));
        return agree();
    }

    public boolean faith(int couple) {
        if (!house.isCouple(couple)) {
            return refuse(NO_SUCH_THING);
        }
        if (house.day == 0) {
            return refuse(THERE_IS_NONE);
        }
        tell(house.ownDays[couple], house.day);
        return agree();
    }

    // ---- YEARS

    public int live(int seed) {
        if (seed < 0 || seed > LAST_SEED) {
            return fail(BAD_NUMBER);
        }
        if (!years.told) {
            return fail(THERE_IS_NONE);
        }
        life.lead(house, years, seed);
        for (int i = 0; i < Life.MANY_TOLD; i++) {
            lastLife[i] = life.told[i];
        }
        hasLived = true;
        return answer(life.steps);
    }

    public int lived(int what) {
        if (what < 0 || what >= Life.MANY_TOLD) {
            return fail(BAD_NUMBER);
        }
        return hasLived ? answer(lastLife[what]) : fail(THERE_IS_NONE);
    }

    public boolean mean(int seed, int many) {
        if (seed < 0 || many < 1 || many > MOST_SEEDS || seed > LAST_SEED + 1 - many) {
            return refuse(BAD_NUMBER);
        }
        if (!years.told) {
            return refuse(THERE_IS_NONE);
        }
        int together = 0;
        for (int i = 0; i < many; i++) {
            trial.copyFrom(house);
            life.lead(trial, years, seed + i);
            together += trial.loveTogether();
        }
        tell(together, many);
        return agree();
    }

    // ---- MARKS

    public int mark() {
        if (marks >= MOST_MARKS) {
            return fail(ONE_TOO_MANY);
        }
        markedHouses[marks].copyFrom(house);
        markedYears[marks].copyFrom(years);
        marks++;
        return answer(marks);
    }

    public int back() {
        if (marks < 1) {
            return fail(THERE_IS_NONE);
        }
        marks--;
        house.copyFrom(markedHouses[marks]);
        years.copyFrom(markedYears[marks]);
        return answer(marks);
    }

    // ---- how a call ends

    private int answer(int value) {
        status = 0;
        return value;
    }

    private boolean agree() {
        status = 0;
        return true;
    }

    private int fail(int why) {
        status = why;
        return NONE;
    }

    private boolean refuse(int why) {
        status = why;
        return false;
    }

    private void tell(long above, long below) {
        long divisor = commonDivisor(above, below);
        if (divisor > 0) {
            top = above / divisor;
            bottom = below / divisor;
        }
    }

    private static long commonDivisor(long a, long b) {
        long big = a;
        long small = b;
        // Two steps at least halve the greater one, so 200 are more than a long can need.
        for (int step = 0; step < 200 && small != 0; step++) {
            long rest = big % small;
            big = small;
            small = rest;
        }
        return big;
    }

    /** A row of numbers of one width. */
    private static final class Tray {
        final long[] row = new long[MOST_PLACES];
        boolean made = false;
        int sort = 0;
        private int length = 0;

        void make(int sort, int length) {
            this.sort = sort;
            this.length = length;
            made = true;
            Arrays.fill(row, 0L);
        }

        /** Whether so many numbers stand from a place on; no sum is made that could wrap. */
        boolean hasRow(int place, int many) {
            return place >= 0 && many >= 0 && many <= length && place <= length - many;
        }

        void put(int place, long v) {
            if (hasRow(place, 1)) {
                row[place] = cutToWidth(v);
            }
        }

        long get(int place) {
            return hasRow(place, 1) ? row[place] : NONE;
        }

        private long cutToWidth(long v) {
            switch (sort) {
                case 0:
                    return (byte) v;
                case 1:
                    return (short) v;
                case 2:
                    return (int) v;
                default:
                    return v;
            }
        }
    }

    /** ROOMS, WIRES, COUPLES, and all that became of them. */
    private static final class House {
        static final int WIRE_NAMES = MOST_ROOMS;
        static final int COUPLE_NAMES = MOST_ROOMS + MOST_WIRES;
        static final int MANY_NAMES = MOST_ROOMS + MOST_WIRES + MOST_COUPLES;

        int power = FIRST_POWER;
        int odds = FIRST_ODDS;
        int rooms = 0;
        int wires = 0;
        int couples = 0;
        int day = 0;
        boolean damp = false;
        int whole = 0;
        int holds = 0;
        final int[] from = new int[MOST_WIRES];
        final int[] to = new int[MOST_WIRES];
        final int[] slack = new int[MOST_WIRES];
        final int[] he = new int[MOST_COUPLES];
        final int[] she = new int[MOST_COUPLES];
        final int[] love = new int[MOST_COUPLES];
        final int[] ownDays = new int[MOST_COUPLES];
        final int[] otherDays = new int[MOST_COUPLES];
        /** Packed letters: ROOMS, then WIRES, then COUPLES; 0 where there is no NAME. */
        final long[] names = new long[MANY_NAMES];
        private final int[] lengths = new int[MOST_ROOMS * MOST_ROOMS];
        /** Lengths are measured only when asked for: years of cuts need few of them. */
        private boolean measured = false;

        void clear() {
            power = FIRST_POWER;
            odds = FIRST_ODDS;
            rooms = 0;
            wires = 0;
            couples = 0;
            day = 0;
            damp = false;
            whole = 0;
            holds = 0;
            measured = false;
            Arrays.fill(names, 0L);
        }

        void copyFrom(House other) {
            power = other.power;
            odds = other.odds;
            rooms = other.rooms;
            wires = other.wires;
            couples = other.couples;
            day = other.day;
            damp = other.damp;
            whole = other.whole;
            holds = other.holds;
            measured = other.measured;
            System.arraycopy(other.from, 0, from, 0, MOST_WIRES);
            System.arraycopy(other.to, 0, to, 0, MOST_WIRES);
            System.arraycopy(other.slack, 0, slack, 0, MOST_WIRES);
            System.arraycopy(other.he, 0, he, 0, MOST_COUPLES);
            System.arraycopy(other.she, 0, she, 0, MOST_COUPLES);
            System.arraycopy(other.love, 0, love, 0, MOST_COUPLES);
            System.arraycopy(other.ownDays, 0, ownDays, 0, MOST_COUPLES);
            System.arraycopy(other.otherDays, 0, otherDays, 0, MOST_COUPLES);
            System.arraycopy(other.names, 0, names, 0, MANY_NAMES);
            System.arraycopy(other.lengths, 0, lengths, 0, MOST_ROOMS * MOST_ROOMS);
        }

        boolean isRoom(int room) {
            return room >= 0 && room < rooms;
        }

        boolean isWire(int wire) {
            return wire >= 0 && wire < wires;
        }

        boolean isCouple(int couple) {
            return couple >= 0 && couple < couples;
        }

        boolean isWhole(int wire) {
            return (whole >> wire & 1) != 0;
        }

        boolean isMendable(int wire) {
            return !isWhole(wire) || slack[wire] > 0;
        }

        boolean isHolding(int couple) {
            return (holds >> couple & 1) != 0;
        }

        boolean isTaken(long name) {
            return findName(0, MANY_NAMES, name) != NONE;
        }

        int findRoom(long name) {
            return findName(0, rooms, name);
        }

        int findWire(long name) {
            return findName(WIRE_NAMES, wires, name);
        }

        int findCouple(long name) {
            return findName(COUPLE_NAMES, couples, name);
        }

        private int findName(int first, int many, long name) {
            for (int i = 0; i < many && first + i < MANY_NAMES; i++) {
                if (names[first + i] == name) {
                    return i;
                }
            }
            return NONE;
        }

        void addWire(int room, int other, int slackOfIt) {
            if (wires < MOST_WIRES) {
                from[wires] = room;
                to[wires] = other;
                slack[wires] = slackOfIt;
                whole |= 1 << wires;
                wires++;
                measured = false;
            }
        }

        void addCouple(int hisRoom, int herRoom, int loveOfThem) {
            if (couples < MOST_COUPLES) {
                he[couples] = hisRoom;
                she[couples] = herRoom;
                love[couples] = loveOfThem;
                ownDays[couples] = 0;
                otherDays[couples] = 0;
                holds |= 1 << couples;
                couples++;
            }
        }

        void cutWire(int wire) {
            whole &= ~(1 << wire);
            measured = false;
        }

        void mendWire(int wire) {
            whole |= 1 << wire;
            setSlack(wire, 0);
        }

        void setSlack(int wire, int much) {
            if (isWire(wire)) {
                slack[wire] = much;
                measured = false;
            }
        }

        int distance(int room, int other) {
            measure();
            return isRoom(room) && isRoom(other) ? lengths[room * MOST_ROOMS + other] : NO_WAY;
        }

        private void measure() {
            if (measured) {
                return;
            }
            measured = true;
            Arrays.fill(lengths, NO_WAY);
            for (int r = 0; r < rooms; r++) {
                lengths[r * MOST_ROOMS + r] = 0;
            }
            for (int w = 0; w < wires; w++) {
                if ((whole >> w & 1) != 0) {
                    int there = from[w] * MOST_ROOMS + to[w];
                    int length = Math.min(lengths[there], 1 + slack[w]);
                    lengths[there] = length;
                    lengths[to[w] * MOST_ROOMS + from[w]] = length;
                }
            }
            for (int by = 0; by < rooms; by++) {
                for (int a = 0; a < rooms; a++) {
                    int toIt = lengths[a * MOST_ROOMS + by];
                    for (int b = 0; b < rooms && toIt < NO_WAY && a != by; b++) {
                        int length = toIt + lengths[by * MOST_ROOMS + b];
                        if (length < lengths[a * MOST_ROOMS + b]) {
                            lengths[a * MOST_ROOMS + b] = length;
                        }
                    }
                }
            }
        }

        /** Each wire is at least 1 long, so the least next ROOM on a shortest way is right. */
        int nextOnWay(int at, int target) {
            for (int r = 0; r < rooms; r++) {
                int step = shortestWire(at, r);
                if (step < NO_WAY && step + distance(r, target) == distance(at, target)) {
                    return r;
                }
            }
            return target;
        }

        private int shortestWire(int room, int other) {
            int least = NO_WAY;
            for (int w = 0; w < wires; w++) {
                boolean joins = from[w] == room && to[w] == other
                        || from[w] == other && to[w] == room;
                if (joins && isWhole(w)) {
                    least = Math.min(least, 1 + slack[w]);
                }
            }
            return least;
        }

        boolean isFirstOfPart(int room) {
            for (int r = 0; r < room; r++) {
                if (distance(r, room) < NO_WAY) {
                    return false;
                }
            }
            return true;
        }

        int heardSet(int room) {
            int set = 0;
            for (int r = 0; r < rooms; r++) {
                if (distance(room, r) <= power) {
                    set |= 1 << r;
                }
            }
            return set;
        }

        boolean isRung(int couple) {
            return distance(he[couple], she[couple]) <= power;
        }

        int rungSet() {
            int set = 0;
            for (int c = 0; c < couples; c++) {
                if (isRung(c)) {
                    set |= 1 << c;
                }
            }
            return set;
        }

        int loveTogether() {
            int sum = 0;
            for (int c = 0; c < couples; c++) {
                sum += love[c];
            }
            return sum;
        }

        /** Whom SHE would answer by what she hears, whether her own COUPLE HOLDS or not. */
        int answerOf(int couple) {
            measure();
            int whom = NONE;
            int least = power;
            for (int c = 0; c < couples; c++) {
                if (isHolding(c)) {
                    int length = lengths[he[c] * MOST_ROOMS + she[couple]];
                    boolean nearer = whom == NONE ? length <= power : length < least;
                    if (nearer || c == couple && length == least) {
                        whom = c;
                        least = length;
                    }
                }
            }
            return whom;
        }

        boolean answersAnother(int couple) {
            int whom = answerOf(couple);
            return whom != NONE && whom != couple;
        }

        boolean isStretching() {
            for (int w = 0; w < wires; w++) {
                if (damp && isWhole(w) && slack[w] < MOST_SLACK) {
                    return true;
                }
            }
            return false;
        }

        void stretchAll() {
            for (int w = 0; w < wires; w++) {
                if (isWhole(w) && slack[w] < MOST_SLACK) {
                    slack[w]++;
                    measured = false;
                }
            }
        }
    }

    /** DAYS that go by. Those on which all answer alike are taken at once. */
    private static final class Days {
        private final int[] whom = new int[MOST_COUPLES];

        /** The set of COUPLES that PARTED. */
        int pass(House h, int many) {
            int parted = 0;
            int last = h.day + many;
            for (int span = 0; span < many && h.day < last; span++) {
                parted |= passSpan(h, last - h.day);
            }
            return parted;
        }

        /** One DAY and those behind it that are alike, so many at most; those who PARTED, on the last. */
        int passSpan(House h, int most) {
            if (most < 1) {
                return 0;
            }
            for (int c = 0; c < h.couples; c++) {
                whom[c] = h.isHolding(c) ? h.answerOf(c) : NONE;
            }
            int span = Math.max(1, alikeDays(h, most));
            int parted = loveThrough(h, span);
            if (h.isStretching()) {
                h.stretchAll();
            }
            h.day += span;
            return parted;
        }

        /** For how many DAYS, of so many at most, none PARTS ahead of the last and no WIRE stretches. */
        private int alikeDays(House h, int most) {
            if (h.isStretching()) {
                return 1;
            }
            int span = most;
            for (int c = 0; c < h.couples; c++) {
                if (h.isHolding(c) && whom[c] != c) {
                    int loss = lossOf(c);
                    span = Math.min(span, (h.love[c] + loss - 1) / loss);
                }
            }
            return span;
        }

        private int lossOf(int couple) {
            return whom[couple] == NONE ? 1 : 2;
        }

        private int loveThrough(House h, int span) {
            int parted = 0;
            for (int c = 0; c < h.couples; c++) {
                if (!h.isHolding(c)) {
                    continue;
                }
                if (whom[c] == c) {
                    h.love[c] = Math.min(MOST_LOVE, h.love[c] + span);
                    h.ownDays[c] += span;
                    continue;
                }
                h.love[c] = Math.max(0, h.love[c] - span * lossOf(c));
                if (whom[c] != NONE) {
                    h.otherDays[c] += span;
                }
                if (h.love[c] == 0) {
                    h.holds &= ~(1 << c);
                    parted |= 1 << c;
                }
            }
            return parted;
        }
    }

    /** What would be if other WIRES were whole: sets of those whole, and of those mended. */
    private static final class Wiring {
        private final int[] reach = new int[MOST_ROOMS];
        int gameValue = 0;
        int firstMove = NONE;

        /** Whether a pull comes from a ROOM to another one; slack of mended WIRES is none. */
        private boolean carries(House h, int room, int other, int whole, int mended) {
            if (!h.isRoom(room) || !h.isRoom(other)) {
                return false;
            }
            Arrays.fill(reach, NO_WAY);
            reach[room] = 0;
            boolean shorter = true;
            for (int round = 1; round < h.rooms && shorter; round++) {
                shorter = false;
                for (int w = 0; w < h.wires; w++) {
                    if ((whole >> w & 1) != 0) {
                        int length = (mended >> w & 1) != 0 ? 1 : 1 + h.slack[w];
                        shorter |= relax(h.from[w], h.to[w], length);
                    }
                }
            }
            return reach[other] <= h.power;
        }

        private boolean relax(int a, int b, int length) {
            if (reach[a] + length < reach[b]) {
                reach[b] = reach[a] + length;
                return true;
            }
            if (reach[b] + length < reach[a]) {
                reach[a] = reach[b] + length;
                return true;
            }
            return false;
        }

        private boolean allRung(House h, int couples, int whole, int mended) {
            for (int c = 0; c < h.couples; c++) {
                if ((couples >> c & 1) != 0 && !carries(h, h.he[c], h.she[c], whole, mended)) {
                    return false;
                }
            }
            return true;
        }

        private int countRung(House h, int whole, int mended) {
            int many = 0;
            for (int c = 0; c < h.couples; c++) {
                if (carries(h, h.he[c], h.she[c], whole, mended)) {
                    many++;
                }
            }
            return many;
        }

        private static int mendableSet(House h) {
            int set = 0;
            for (int w = 0; w < h.wires; w++) {
                if (h.isMendable(w)) {
                    set |= 1 << w;
                }
            }
            return set;
        }

        /** NONE if not all would be RUNG with every WIRE mended. */
        int leastMends(House h, int couples) {
            int useful = mendableSet(h);
            if (!allRung(h, couples, h.whole | useful, useful)) {
                return NONE;
            }
            int sets = 1 << h.wires;
            for (int many = 0; many < h.wires; many++) {
                for (int set = 0; set < sets; set++) {
                    if ((set & ~useful) == 0 && Integer.bitCount(set) == many
                            && allRung(h, couples, h.whole | set, set)) {
                        return set;
                    }
                }
            }
            return useful;
        }

        int leastCuts(House h, int room, int other) {
            int sets = 1 << h.wires;
            for (int many = 0; many < h.wires; many++) {
                for (int set = 0; set < sets; set++) {
                    if ((set & ~h.whole) == 0 && Integer.bitCount(set) == many
                            && !carries(h, room, other, h.whole & ~set, 0)) {
                        return set;
                    }
                }
            }
            return h.whole;
        }

        int hangSet(House h, int couple) {
            int set = 0;
            for (int w = 0; w < h.wires; w++) {
                if (h.isWhole(w) && hangsOn(h, couple, w)) {
                    set |= 1 << w;
                }
            }
            return set;
        }

        private boolean hangsOn(House h, int couple, int wire) {
            return !carries(h, h.he[couple], h.she[couple], h.whole & ~(1 << wire), 0);
        }

        int mostHungOn(House h) {
            int rung = h.rungSet();
            int best = NONE;
            int most = NONE;
            for (int w = 0; w < h.wires; w++) {
                if (h.isWhole(w)) {
                    int many = 0;
                    for (int c = 0; c < h.couples; c++) {
                        if ((rung >> c & 1) != 0 && hangsOn(h, c, w)) {
                            many++;
                        }
                    }
                    if (many > most) {
                        most = many;
                        best = w;
                    }
                }
            }
            return best;
        }

        /** The top of LASTS above 16 to the power of how many WIRES are whole. */
        long lastingSixteenths(House h, int couple) {
            int manyWhole = Integer.bitCount(h.whole);
            int sets = 1 << h.wires;
            long sum = 0;
            for (int cut = 0; cut < sets; cut++) {
                if ((cut & ~h.whole) == 0) {
                    int manyCut = Integer.bitCount(cut);
                    long weight = toThePower(h.odds, manyCut)
                            * toThePower(MOST_ODDS - h.odds, manyWhole - manyCut);
                    if (weight > 0 && carries(h, h.he[couple], h.she[couple], h.whole & ~cut, 0)) {
                        sum += weight;
                    }
                }
            }
            return sum;
        }

        static long toThePower(int base, int exponent) {
            long product = 1;
            for (int i = 0; i < exponent; i++) {
                product *= base;
            }
            return product;
        }

        /** Finds gameValue, and firstMove (NONE for nothing), which is told only with a turn. */
        void playOut(House h, int turns) {
            firstMove = NONE;
            if (turns < 1) {
                gameValue = countRung(h, h.whole, 0);
                return;
            }
            int best = h.couples + 1;
            for (int w = 0; w < h.wires; w++) {
                if (h.isWhole(w)) {
                    int value = wiremanPlays(h, turns - 1, h.whole & ~(1 << w), 0, 0, best);
                    if (value < best) {
                        best = value;
                        firstMove = w;
                    }
                }
            }
            int idle = wiremanPlays(h, turns - 1, h.whole, 0, 0, best);
            if (idle < best) {
                best = idle;
                firstMove = NONE;
            }
            gameValue = best;
        }

        /** What comes out is right only between low and high: beyond, the other one won't go there. */
        private int mousePlays(House h, int left, int whole, int mended, int low, int high) {
            if (left <= 0) {
                return countRung(h, whole, mended);
            }
            int best = high;
            for (int w = 0; w < h.wires && best > low; w++) {
                if ((whole >> w & 1) != 0) {
                    int after = whole & ~(1 << w);
                    best = Math.min(best, wiremanPlays(h, left - 1, after, mended, low, best));
                }
            }
            if (best > low) {
                best = Math.min(best, wiremanPlays(h, left - 1, whole, mended, low, best));
            }
            return best;
        }

        private int wiremanPlays(House h, int left, int whole, int mended, int low, int high) {
            if (left <= 0) {
                return countRung(h, whole, mended);
            }
            int best = low;
            for (int w = 0; w < h.wires && best < high; w++) {
                int bit = 1 << w;
                boolean isTight = (mended & bit) != 0 || h.slack[w] == 0;
                if ((whole & bit) == 0 || !isTight) {
                    int value = mousePlays(h, left - 1, whole | bit, mended | bit, best, high);
                    best = Math.max(best, value);
                }
            }
            if (best < high) {
                best = Math.max(best, mousePlays(h, left - 1, whole, mended, best, high));
            }
            return best;
        }
    }

    /** PAIRS: who has whom when nobody has one left to ask. */
    private static final class Pairs {
        final int[] sheOf = new int[MOST_COUPLES];
        private final int[] heOf = new int[MOST_COUPLES];
        private final int[] asked = new int[MOST_COUPLES];

        void findAll(House h) {
            Arrays.fill(sheOf, NONE);
            Arrays.fill(heOf, NONE);
            Arrays.fill(asked, 0);
            // Nobody asks the same one twice.
            for (int turn = 0; turn < MOST_COUPLES * MOST_COUPLES; turn++) {
                askOnce(h);
            }
        }

        private void askOnce(House h) {
            for (int he = 0; he < h.couples; he++) {
                int she = sheOf[he] == NONE ? nextToAsk(h, he) : NONE;
                if (she != NONE) {
                    asked[he] |= 1 << she;
                    propose(h, he, she);
                    return;
                }
            }
        }

        private int nextToAsk(House h, int he) {
            int next = NONE;
            int least = h.power + 1;
            for (int she = 0; she < h.couples; she++) {
                int length = h.distance(h.he[he], h.she[she]);
                if ((asked[he] >> she & 1) == 0 && length < least) {
                    next = she;
                    least = length;
                }
            }
            return next;
        }

        private void propose(House h, int he, int she) {
            int had = heOf[she];
            if (had != NONE) {
                int hisLength = h.distance(h.he[he], h.she[she]);
                if (h.distance(h.he[had], h.she[she]) <= hisLength) {
                    return;
                }
                sheOf[had] = NONE;
            }
            heOf[she] = he;
            sheOf[he] = she;
        }
    }

    /** STEPS and ends, a row each, as they stand. */
    private static final class Years {
        static final int MOST_ROWS = 2 * MOST_STEPS;

        boolean told = false;
        int steps = 0;
        int rows = 0;
        /** The keyword that begins the STEP; W_END for an end. */
        final int[] kind = new int[MOST_ROWS];
        /** The keyword of a when's TEST. */
        final int[] test = new int[MOST_ROWS];
        /** Which WIRE or COUPLE. */
        final int[] thing = new int[MOST_ROWS];
        final int[] sign = new int[MOST_ROWS];
        final int[] number = new int[MOST_ROWS];
        /** The row of its end; for an end, the row that it ends. */
        final int[] partner = new int[MOST_ROWS];
        /** While it is read: the rows that wait for their end, and how many they are. */
        private final int[] open = new int[MOST_DEPTH];
        int depth = 0;

        void forget() {
            told = false;
            steps = 0;
            rows = 0;
            depth = 0;
        }

        void openRow(int row) {
            if (depth < MOST_DEPTH) {
                open[depth] = row;
                depth++;
            }
        }

        void closeRow(int end) {
            if (depth > 0) {
                depth--;
                partner[end] = open[depth];
                partner[open[depth]] = end;
            }
        }

        /** A row more, that tells nothing but its kind; the caller keeps below MOST_ROWS. */
        int addRow(int kindOfIt) {
            if (rows >= MOST_ROWS) {
                return MOST_ROWS - 1;
            }
            kind[rows] = kindOfIt;
            test[rows] = NONE;
            thing[rows] = 0;
            sign[rows] = 0;
            number[rows] = 0;
            partner[rows] = rows;
            rows++;
            return rows - 1;
        }

        void copyFrom(Years other) {
            told = other.told;
            steps = other.steps;
            rows = other.rows;
            System.arraycopy(other.kind, 0, kind, 0, MOST_ROWS);
            System.arraycopy(other.test, 0, test, 0, MOST_ROWS);
            System.arraycopy(other.thing, 0, thing, 0, MOST_ROWS);
            System.arraycopy(other.sign, 0, sign, 0, MOST_ROWS);
            System.arraycopy(other.number, 0, number, 0, MOST_ROWS);
            System.arraycopy(other.partner, 0, partner, 0, MOST_ROWS);
        }
    }

    /** YEARS that are lived by a seed. */
    private static final class Life {
        static final int MISSED = 0;
        static final int DAYS = 1;
        static final int PARTED = 2;
        static final int CUTS = 3;
        static final int LEFT = 4;
        static final int MANY_TOLD = 5;

        int steps = 0;
        final int[] told = new int[MANY_TOLD];
        private final int[] turnsLeft = new int[Years.MOST_ROWS];
        private final Days days = new Days();
        private int drawn = 0;

        void lead(House h, Years y, int seed) {
            steps = 0;
            drawn = seed;
            Arrays.fill(told, 0);
            int row = 0;
            // Ends of empty loops are no STEPS: 300 loops of 99 turns stay far below this bound.
            for (int turn = 0; turn < 1000000 && row < y.rows; turn++) {
                if (y.kind[row] == W_END) {
                    row = passEnd(y, row);
                } else if (steps >= MOST_STEPS_LIVED) {
                    told[LEFT] = 1;
                    return;
                } else {
                    steps++;
                    row = doStep(h, y, row);
                }
            }
        }

        private int passEnd(Years y, int row) {
            int begin = y.partner[row];
            if (y.kind[begin] == W_LOOP && turnsLeft[begin] > 1) {
                turnsLeft[begin]--;
                return begin + 1;
            }
            return row + 1;
        }

        /** The row to go on with. */
        private int doStep(House h, Years y, int row) {
            boolean done = true;
            switch (y.kind[row]) {
                case W_STOP:
                    return y.rows;
                case W_WHEN:
                    return isSo(h, y, row) ? row + 1 : y.partner[row] + 1;
                case W_LOOP:
                    turnsLeft[row] = y.number[row];
                    break;
                case W_DAY:
                    done = h.day + y.number[row] <= LAST_DAY;
                    if (done) {
                        told[PARTED] += Integer.bitCount(days.pass(h, y.number[row]));
                        told[DAYS] += y.number[row];
                    }
                    break;
                case W_DAMP:
                    done = turnDamp(h, true);
                    break;
                case W_DRY:
                    done = turnDamp(h, false);
                    break;
                case W_MEND:
                    done = mendOne(h, y.thing[row]);
                    break;
                case W_CUT:
                    done = cutOne(h, y.thing[row]);
                    break;
                default:
                    done = hurtAny(h);
                    break;
            }
            if (!done) {
                told[MISSED]++;
            }
            return row + 1;
        }

        private boolean isSo(House h, Years y, int row) {
            int couple = y.thing[row];
            if (!h.isCouple(couple)) {
                return false;
            }
            switch (y.test[row]) {
                case W_RUNG:
                    return h.isRung(couple);
                case W_PARTED:
                    return !h.isHolding(couple);
                default:
                    return compares(h.love[couple], y.sign[row], y.number[row]);
            }
        }

        private static boolean compares(int a, int sign, int b) {
            if (sign == '<') {
                return a < b;
            }
            return sign == '>' ? a > b : a == b;
        }

        // What is done for a plain STEP; false if it is MISSED.

        private static boolean turnDamp(House h, boolean is) {
            boolean turns = h.damp != is;
            h.damp = is;
            return turns;
        }

        private static boolean mendOne(House h, int wire) {
            if (!h.isWire(wire) || !h.isMendable(wire)) {
                return false;
            }
            h.mendWire(wire);
            return true;
        }

        private boolean cutOne(House h, int wire) {
            if (!h.isWire(wire) || !h.isWhole(wire)) {
                return false;
            }
            h.cutWire(wire);
            told[CUTS]++;
            return true;
        }

        private boolean hurtAny(House h) {
            if (h.wires < 1) {
                return false;
            }
            int wire = drawBy(h.wires);
            boolean cuts = drawBy(MOST_ODDS) < h.odds;
            if (!h.isWhole(wire)) {
                return false;
            }
            if (cuts) {
                return cutOne(h, wire);
            }
            if (h.slack[wire] >= MOST_SLACK) {
                return false;
            }
            h.setSlack(wire, h.slack[wire] + 1);
            return true;
        }

        private int drawBy(int n) {
            drawn = (drawn * 2971 + 10859) % 65536;
            return n > 0 ? drawn / 8 % n : 0;
        }
    }

    /** The tape, its TOKENS one at a time, and the first FAULT that was found in it. */
    private static final class Tokens {
        static final int END = 0;
        static final int WORD = 1;
        static final int NUMBER = 2;
        static final int SIGN = 3;
        static final int NO_TOKEN = 4;
        static final int MOST_LETTERS = 8;
        static final int MOST_DIGITS = 4;

        int kind = END;
        int place = 0;
        /** The letters of a WORD (of the first eight), five bits each. */
        long word = 0;
        int keyword = NONE;
        int value = 0;
        int fault = 0;
        int faultPlace = NONE;
        /** How many bytes are on the tape. */
        int fed = 0;
        private int letters = 0;
        private final byte[] text = new byte[MOST_TAPE];
        private int length = 0;
        private int at = 0;
        private final long[] keywords = new long[MANY_KEYWORDS];

        Tokens() {
            int many = 0;
            for (int i = 0; i < KEYWORDS.length() && many < MANY_KEYWORDS; i++) {
                if (KEYWORDS.charAt(i) == ' ') {
                    many++;
                } else {
                    keywords[many] = keywords[many] * 32 + (KEYWORDS.charAt(i) - 'a' + 1);
                }
            }
        }

        void feedInt(int four) {
            for (int shift = 24; shift >= 0 && fed < MOST_TAPE; shift -= 8) {
                text[fed] = (byte) (four >> shift);
                fed++;
            }
        }

        void start(int lengthOfText) {
            length = Math.max(0, Math.min(lengthOfText, fed));
            at = 0;
            fault = 0;
            faultPlace = NONE;
            advance();
        }

        void advance() {
            while (at < length && (text[at] == ' ' || text[at] == '\n')) {
                at++;
            }
            place = at;
            keyword = NONE;
            if (at >= length) {
                kind = END;
            } else if (isLetter(text[at])) {
                scanWord();
            } else if (isDigit(text[at])) {
                scanNumber();
            } else {
                value = text[at];
                boolean isSign = value == ';' || value == '<' || value == '>' || value == '=';
                kind = isSign ? SIGN : NO_TOKEN;
                at++;
            }
        }

        private void scanWord() {
            kind = WORD;
            word = 0;
            letters = 0;
            while (at < length && isLetter(text[at])) {
                if (letters < MOST_LETTERS) {
                    word = word * 32 + (text[at] - 'a' + 1);
                }
                letters++;
                at++;
            }
            for (int i = 0; i < MANY_KEYWORDS && keyword == NONE; i++) {
                if (keywords[i] == word) {
                    keyword = i;
                }
            }
        }

        private void scanNumber() {
            value = 0;
            int digits = 0;
            while (at < length && isDigit(text[at])) {
                if (digits < MOST_DIGITS) {
                    value = value * 10 + (text[at] - '0');
                }
                digits++;
                at++;
            }
            kind = digits <= MOST_DIGITS ? NUMBER : NO_TOKEN;
        }

        private static boolean isLetter(int b) {
            return b >= 'a' && b <= 'z';
        }

        private static boolean isDigit(int b) {
            return b >= '0' && b <= '9';
        }

        /** Where no TOKEN begins, that is the FAULT, whatever was looked for. */
        boolean refuse(int faultKind) {
            fault = kind == NO_TOKEN ? FAULT_TOKEN : faultKind;
            faultPlace = kind == END ? length : place;
            return false;
        }

        boolean isName() {
            return kind == WORD && keyword == NONE && letters <= MOST_LETTERS;
        }

        boolean isSign(int sign) {
            return kind == SIGN && value == sign;
        }

        boolean takeKeyword(int wanted) {
            if (keyword != wanted) {
                return refuse(FAULT_PLACE);
            }
            advance();
            return true;
        }

        boolean takeSemicolon() {
            if (!isSign(';')) {
                return refuse(FAULT_PLACE);
            }
            advance();
            return true;
        }

        /** NONE, with the FAULT told, if there is no such NUMBER. */
        int takeNumber(int low, int high) {
            if (kind != NUMBER) {
                refuse(FAULT_PLACE);
                return NONE;
            }
            if (value < low || value > high) {
                refuse(FAULT_NUMBER);
                return NONE;
            }
            int number = value;
            advance();
            return number;
        }
    }

    /** Reads a HOUSE; what is read is right only if there was no FAULT. */
    private static final class HouseReader {
        private static final int UNTOLD = NONE;

        static boolean readHouse(Tokens t, House h, int length) {
            t.start(length);
            h.clear();
            h.power = UNTOLD;
            h.odds = UNTOLD;
            // A PART takes a byte at least.
            for (int part = 0; part < length && t.kind != Tokens.END; part++) {
                if (!readPart(t, h)) {
                    return false;
                }
            }
            h.power = h.power == UNTOLD ? FIRST_POWER : h.power;
            h.odds = h.odds == UNTOLD ? FIRST_ODDS : h.odds;
            return true;
        }

        private static boolean readPart(Tokens t, House h) {
            switch (t.keyword) {
                case W_POWER:
                    return readPower(t, h) && t.takeSemicolon();
                case W_ODDS:
                    return readOdds(t, h) && t.takeSemicolon();
                case W_ROOM:
                    return readRoom(t, h);
                case W_WIRE:
                    return readWire(t, h);
                case W_COUPLE:
                    return readCouple(t, h);
                default:
                    return t.refuse(FAULT_PLACE);
            }
        }

        private static boolean readPower(Tokens t, House h) {
            if (h.power != UNTOLD) {
                return t.refuse(FAULT_TWICE);
            }
            t.advance();
            h.power = t.takeNumber(1, MOST_POWER);
            return h.power != NONE;
        }

        private static boolean readOdds(Tokens t, House h) {
            if (h.odds != UNTOLD) {
                return t.refuse(FAULT_TWICE);
            }
            t.advance();
            h.odds = t.takeNumber(0, MOST_ODDS);
            return h.odds != NONE;
        }

        private static boolean readRoom(Tokens t, House h) {
            if (h.rooms >= MOST_ROOMS) {
                return t.refuse(FAULT_MANY);
            }
            t.advance();
            if (!takeNewName(t, h, h.rooms) || !t.takeSemicolon()) {
                return false;
            }
            h.rooms++;
            return true;
        }

        private static boolean readWire(Tokens t, House h) {
            if (h.wires >= MOST_WIRES) {
                return t.refuse(FAULT_MANY);
            }
            t.advance();
            if (!takeNewName(t, h, House.WIRE_NAMES + h.wires) || !t.takeKeyword(W_FROM)) {
                return false;
            }
            int from = takeRoom(t, h, NONE);
            if (from == NONE || !t.takeKeyword(W_TO)) {
                return false;
            }
            int to = takeRoom(t, h, from);
            if (to == NONE) {
                return false;
            }
            int slack = 0;
            if (t.keyword == W_SLACK) {
                t.advance();
                slack = t.takeNumber(0, MOST_SLACK);
            }
            if (slack == NONE || !t.takeSemicolon()) {
                return false;
            }
            h.addWire(from, to, slack);
            return true;
        }

        private static boolean readCouple(Tokens t, House h) {
            if (h.couples >= MOST_COUPLES) {
                return t.refuse(FAULT_MANY);
            }
            t.advance();
            if (!takeNewName(t, h, House.COUPLE_NAMES + h.couples) || !t.takeKeyword(W_HE)) {
                return false;
            }
            int he = takeRoom(t, h, NONE);
            if (he == NONE || !t.takeKeyword(W_SHE)) {
                return false;
            }
            int she = takeRoom(t, h, NONE);
            if (she == NONE || !t.takeKeyword(W_LOVE)) {
                return false;
            }
            int love = t.takeNumber(1, MOST_LOVE);
            if (love == NONE || !t.takeSemicolon()) {
                return false;
            }
            h.addCouple(he, she, love);
            return true;
        }

        private static boolean takeNewName(Tokens t, House h, int slot) {
            if (!t.isName()) {
                return t.refuse(FAULT_PLACE);
            }
            if (h.isTaken(t.word) || slot >= House.MANY_NAMES) {
                return t.refuse(FAULT_NAME);
            }
            h.names[slot] = t.word;
            t.advance();
            return true;
        }

        /** NONE, with the FAULT told, if it is no ROOM, or the one that it must not be. */
        private static int takeRoom(Tokens t, House h, int butNot) {
            int room = t.isName() ? h.findRoom(t.word) : NONE;
            if (room == NONE) {
                t.refuse(t.isName() ? FAULT_NAME : FAULT_PLACE);
                return NONE;
            }
            if (room == butNot) {
                t.refuse(FAULT_TWICE);
                return NONE;
            }
            t.advance();
            return room;
        }
    }

    /** Reads YEARS; what is read is right only if there was no FAULT. */
    private static final class YearsReader {
        static boolean readYears(Tokens t, House h, Years y, int length) {
            t.start(length);
            y.forget();
            // A STEP, an end take a byte at least.
            for (int step = 0; step < length && t.kind != Tokens.END; step++) {
                boolean read = t.keyword == W_END ? readEnd(t, y) : readStep(t, h, y);
                if (!read) {
                    return false;
                }
            }
            if (y.depth > 0) {
                return t.refuse(FAULT_PLACE);
            }
            y.told = true;
            return true;
        }

        private static boolean readEnd(Tokens t, Years y) {
            if (y.depth < 1) {
                return t.refuse(FAULT_PLACE);
            }
            t.advance();
            y.closeRow(y.addRow(W_END));
            return t.takeSemicolon();
        }

        private static boolean readStep(Tokens t, House h, Years y) {
            int kind = t.keyword;
            if (!beginsStep(kind)) {
                return t.refuse(FAULT_PLACE);
            }
            if (y.steps >= MOST_STEPS) {
                return t.refuse(FAULT_MANY);
            }
            boolean opens = kind == W_WHEN || kind == W_LOOP;
            if (opens && y.depth >= MOST_DEPTH) {
                return t.refuse(FAULT_DEPTH);
            }
            y.steps++;
            int row = y.addRow(kind);
            if (opens) {
                y.openRow(row);
            }
            t.advance();
            boolean read = true;
            if (kind == W_DAY) {
                read = readNumber(t, y, row, MOST_DAYS_A_STEP);
            } else if (kind == W_LOOP) {
                read = readNumber(t, y, row, MOST_LOOP_TURNS);
            } else if (kind == W_MEND || kind == W_CUT) {
                read = readThing(t, y, row, h.findWire(t.word));
            } else if (kind == W_WHEN) {
                read = readTest(t, h, y, row);
            }
            return read && t.takeSemicolon();
        }

        private static boolean beginsStep(int keyword) {
            switch (keyword) {
                case W_DAY:
                case W_DAMP:
                case W_DRY:
                case W_MEND:
                case W_CUT:
                case W_ANY:
                case W_WHEN:
                case W_LOOP:
                case W_STOP:
                    return true;
                default:
                    return false;
            }
        }

        private static boolean readNumber(Tokens t, Years y, int row, int high) {
            y.number[row] = t.takeNumber(1, high);
            return y.number[row] != NONE;
        }

        /** The NAME that stands here is that of a thing, or, with NONE, of no such one. */
        private static boolean readThing(Tokens t, Years y, int row, int thing) {
            if (!t.isName()) {
                return t.refuse(FAULT_PLACE);
            }
            if (thing == NONE) {
                return t.refuse(FAULT_NAME);
            }
            y.thing[row] = thing;
            t.advance();
            return true;
        }

        private static boolean readTest(Tokens t, House h, Years y, int row) {
            int test = t.keyword;
            if (test != W_RUNG && test != W_LOVE && test != W_PARTED) {
                return t.refuse(FAULT_PLACE);
            }
            y.test[row] = test;
            t.advance();
            if (!readThing(t, y, row, h.findCouple(t.word))) {
                return false;
            }
            if (test != W_LOVE) {
                return true;
            }
            if (!t.isSign('<') && !t.isSign('>') && !t.isSign('=')) {
                return t.refuse(FAULT_PLACE);
            }
            y.sign[row] = t.value;
            t.advance();
            y.number[row] = t.takeNumber(0, MOST_LOVE);
            return y.number[row] != NONE;
        }
    }
}
