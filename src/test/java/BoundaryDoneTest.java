/**
 * Promises 13 to 26 and what a DAY does: each sentence of the document that names a boundary has a
 * test of its own here, on objects of its own.
 */
public final class BoundaryDoneTest {
    private static final int LEAST = Integer.MIN_VALUE;
    private static final int MOST = Integer.MAX_VALUE;
    private static final String ROOMS = "room a;room b;room c;room d;room e;room f;room g;room h;";
    /** All that a HOUSE can have; WIRES 0 to 6 are the chain from a to h. */
    private static final String FULL = "power 99;odds 16;" + ROOMS
            + "wire p from a to b slack 9;wire q from b to c slack 9;wire r from c to d slack 9;"
            + "wire s from d to e slack 9;wire t from e to f slack 9;wire u from f to g slack 9;"
            + "wire v from g to h slack 9;wire w from h to a slack 9;wire x from a to c slack 9;wire y from b to d slack 9;"
            + "couple i he a she a love 9;couple j he b she b love 9;couple k he c she c love 9;"
            + "couple l he d she d love 9;couple m he e she e love 9;couple n he f she f love 9;";
    /** 0: FAR 3, RUNG; 1: FAR 4, just RUNG; 2: FAR 6, not RUNG. */
    private static final String THREE = "power 4;odds 4;room a;room b;room c;room d;"
            + "wire u from a to b slack 1;wire v from b to c;wire w from d to c slack 2;"
            + "couple m he a she c love 3;couple n he b she d love 1;couple o he a she d love 5;";

    private static int tests = 0;
    private static int broken = 0;
    private static boolean holds = true;
    private static String sentence = "";

    public static void main(String[] args) {
        manyOfHouses();
        toldWires();
        toldCouples();
        copiedLove();
        daysThatCanBe();
        theLastDay();
        answersOfADay();
        loveOfADay();
        partingOfADay();
        dampOfADay();
        dampAndDry();
        cutsAndMends();
        stretches();
        strings();
        moves();
        weddings();
        divorces();
        rules();
        System.out.println(tests + " sentences, " + broken + " broken");
        if (broken != 0) {
            System.exit(1);
        }
    }

    // ---- what a test is made of

    private static void test(String words, Runnable body) {
        sentence = words;
        holds = true;
        body.run();
        tests++;
        if (!holds) {
            broken++;
        }
    }

    private static void due(String what, long got, long want) {
        if (got != want) {
            holds = false;
            System.out.println(sentence + ": " + what + " answered " + got + ", due is " + want);
        }
    }

    private static void ok(BellPullHouse x, String what, long got, long want) {
        due(what, got, want);
        due("status() of " + what, x.status(), 0);
    }

    private static void ok(BellPullHouse x, String what, boolean got) {
        ok(x, what, got ? 1 : 0, 1);
    }

    private static void no(BellPullHouse x, String what, long got, int status) {
        due(what, got, -1);
        due("status() of " + what, x.status(), status);
    }

    private static void no(BellPullHouse x, String what, boolean got, int status) {
        no(x, what, got ? 1 : -1, status);
    }

    private static BellPullHouse with(String s) {
        BellPullHouse x = new BellPullHouse();
        for (int i = 0; i < s.length(); i += 20) {
            int[] five = new int[5];
            for (int j = 0; j < 20; j++) {
                five[j / 4] = five[j / 4] << 8 | (i + j < s.length() ? s.charAt(i + j) & 255 : '~');
            }
            x.feed(five[0], five[1], five[2], five[3], five[4]);
        }
        x.house(s.length());
        due("house() of " + s, x.status(), 0);
        return x;
    }

    private static BellPullHouse onDay9999(String s) {
        BellPullHouse x = with(s);
        for (int i = 0; i < 101; i++) {
            x.day(99);
        }
        return x;
    }

    private static void loves(BellPullHouse x, int... love) {
        for (int c = 0; c < love.length; c++) {
            ok(x, "LOVE of " + c, x.couple(c, 2), love[c]);
        }
    }

    /** On how many DAYS she answered him, on how many another one. */
    private static void counts(BellPullHouse x, int couple, int own, int another) {
        ok(x, "own DAYS of " + couple, x.couple(couple, 5), own);
        ok(x, "other DAYS of " + couple, x.couple(couple, 6), another);
    }

    private static void isWire(BellPullHouse x, int wire, int slack, int whole) {
        ok(x, "SLACK of " + wire, x.wire(wire, 2), slack);
        ok(x, "whole is " + wire, x.wire(wire, 3), whole);
    }

    // ---- 13 to 16

    private static void manyOfHouses() {
        test("13: what below 0, above 10", () -> {
            BellPullHouse x = with(THREE);
            for (int what : new int[] {-1, 11, 12, LEAST, MOST}) {
                no(x, "many(" + what + ")", x.many(what), 5);
            }
        });
        test("13: a full HOUSE", () -> {
            BellPullHouse x = with(FULL);
            int[] due = {8, 10, 6, 99, 16, 0, 0, 1023, 63, 63, 54};
            for (int what = 0; what < due.length; what++) {
                ok(x, "many(" + what + ")", x.many(what), due[what]);
            }
        });
        test("13: an empty HOUSE", () -> {
            BellPullHouse x = with("");
            int[] due = {0, 0, 0, 8, 2, 0, 0, 0, 0, 0, 0};
            for (int what = 0; what < due.length; what++) {
                ok(x, "many(" + what + ")", x.many(what), due[what]);
            }
        });
        test("13: POWER and ODDS at their least, without ROOMS", () -> {
            BellPullHouse x = with("power 1;odds 0;");
            ok(x, "POWER", x.many(3), 1);
            ok(x, "ODDS", x.many(4), 0);
            ok(x, "ROOMS", x.many(0), 0);
        });
        test("13: the DAY, 9,999 at most", () -> {
            BellPullHouse x = onDay9999("");
            ok(x, "the DAY", x.many(5), 9999);
        });
        test("13: 1 if it is damp, else 0", () -> {
            BellPullHouse x = with(THREE);
            ok(x, "dry", x.many(6), 0);
            x.damp(true);
            ok(x, "damp", x.many(6), 1);
            x.damp(false);
            ok(x, "dry again", x.many(6), 0);
        });
        test("13: the set of WIRES that are whole, all, all but the first and the last, none", () -> {
            BellPullHouse x = with(FULL);
            x.cut(9);
            ok(x, "without the last", x.many(7), 511);
            x.cut(0);
            ok(x, "without the first", x.many(7), 510);
            for (int w = 1; w < 9; w++) {
                x.cut(w);
            }
            ok(x, "none", x.many(7), 0);
            ok(x, "WIRES", x.many(1), 10);
        });
        test("13: the set of COUPLES that HOLD, all, all but the first and the last, none", () -> {
            BellPullHouse x = with(FULL);
            x.divorce(5);
            ok(x, "without the last", x.many(8), 31);
            x.divorce(0);
            ok(x, "without the first", x.many(8), 30);
            for (int c = 1; c < 5; c++) {
                x.divorce(c);
            }
            ok(x, "none", x.many(8), 0);
            ok(x, "COUPLES", x.many(2), 6);
            ok(x, "LOVE of none that HOLDS", x.many(10), 0);
        });
        test("13: the set that are RUNG, PARTED or not", () -> {
            BellPullHouse x = with(THREE);
            ok(x, "RUNG", x.many(9), 3);
            x.divorce(0);
            ok(x, "RUNG, one PARTED", x.many(9), 3);
        });
        test("13: RUNG are those at just POWER, not those 1 beyond", () -> {
            BellPullHouse x = with(THREE);
            x.rule(3, 6);
            ok(x, "POWER 6", x.many(9), 7);
            x.rule(3, 5);
            ok(x, "POWER 5", x.many(9), 3);
            x.rule(3, 3);
            ok(x, "POWER 3", x.many(9), 1);
            x.rule(3, 2);
            ok(x, "POWER 2", x.many(9), 0);
        });
        test("13: LOVE of all COUPLES together, that of PARTED ones is 0", () -> {
            BellPullHouse x = with(THREE);
            ok(x, "all", x.many(10), 9);
            x.divorce(2);
            ok(x, "one PARTED", x.many(10), 4);
        });
    }

    private static void toldWires() {
        test("14: no such WIRE", () -> {
            BellPullHouse x = with(THREE);
            for (int w : new int[] {-1, 3, 9, 10, LEAST, MOST}) {
                no(x, "wire(" + w + ")", x.wire(w, 0), 2);
            }
        });
        test("14: the tenth WIRE, and no 11th", () -> {
            BellPullHouse x = with(FULL);
            ok(x, "one ROOM", x.wire(9, 0), 1);
            ok(x, "the other", x.wire(9, 1), 3);
            ok(x, "SLACK", x.wire(9, 2), 9);
            no(x, "the 11th", x.wire(10, 0), 2);
        });
        test("14: what below 0, above 3", () -> {
            BellPullHouse x = with(THREE);
            for (int what : new int[] {-1, 4, LEAST, MOST}) {
                no(x, "what " + what, x.wire(0, what), 5);
            }
        });
        test("14: 2 goes ahead of 5", () -> {
            BellPullHouse x = with(THREE);
            no(x, "wire", x.wire(3, 4), 2);
            no(x, "wire", x.wire(-1, -1), 2);
        });
        test("14: one ROOM and the other one as they stand, the higher ahead, too", () -> {
            BellPullHouse x = with(THREE);
            ok(x, "from", x.wire(2, 0), 3);
            ok(x, "to", x.wire(2, 1), 2);
        });
        test("14: SLACK 0 without", () -> {
            BellPullHouse x = with(THREE);
            isWire(x, 1, 0, 1);
        });
        test("14: 1 if it is whole, else 0; its SLACK stays", () -> {
            BellPullHouse x = with(THREE);
            isWire(x, 2, 2, 1);
            x.cut(2);
            isWire(x, 2, 2, 0);
            isWire(x, 1, 0, 1);
        });
    }

    private static void toldCouples() {
        test("15: no such COUPLE", () -> {
            BellPullHouse x = with(THREE);
            for (int c : new int[] {-1, 3, 5, 6, LEAST, MOST}) {
                no(x, "couple(" + c + ")", x.couple(c, 0), 2);
            }
        });
        test("15: the sixth COUPLE, and no seventh", () -> {
            BellPullHouse x = with(FULL);
            ok(x, "his ROOM", x.couple(5, 0), 5);
            ok(x, "hers", x.couple(5, 1), 5);
            ok(x, "LOVE", x.couple(5, 2), 9);
            no(x, "the seventh", x.couple(6, 0), 2);
        });
        test("15: what below 0, above 6", () -> {
            BellPullHouse x = with(THREE);
            for (int what : new int[] {-1, 7, LEAST, MOST}) {
                no(x, "what " + what, x.couple(0, what), 5);
            }
        });
        test("15: 2 goes ahead of 5", () -> {
            BellPullHouse x = with(THREE);
            no(x, "couple", x.couple(3, 7), 2);
            no(x, "couple", x.couple(-1, -1), 2);
        });
        test("15: 1 if it HOLDS, else 0", () -> {
            BellPullHouse x = with(THREE);
            ok(x, "HOLDS", x.couple(0, 3), 1);
            x.divorce(0);
            ok(x, "PARTED", x.couple(0, 3), 0);
            ok(x, "another", x.couple(1, 3), 1);
        });
        test("15: 1 if it is RUNG (PARTED or not), else 0", () -> {
            BellPullHouse x = with(THREE);
            ok(x, "at just POWER", x.couple(1, 4), 1);
            ok(x, "beyond", x.couple(2, 4), 0);
            x.divorce(1);
            ok(x, "PARTED", x.couple(1, 4), 1);
        });
        test("15: RUNG in the same ROOM, by the least POWER, without WIRES", () -> {
            BellPullHouse x = with("power 1;room a;room b;couple m he b she b love 1;couple n he a she b love 1;");
            ok(x, "the same", x.couple(0, 4), 1);
            ok(x, "another", x.couple(1, 4), 0);
        });
        test("15: on no DAYS at first, his or another one's", () -> {
            BellPullHouse x = with(THREE);
            for (int c = 0; c < 3; c++) {
                counts(x, c, 0, 0);
            }
        });
        test("15: a DAY on which she hears none counts for neither", () -> {
            BellPullHouse x = with("room a;room b;couple m he a she b love 9;");
            x.day(3);
            counts(x, 0, 0, 0);
            loves(x, 6);
        });
        test("15: DAYS behind the parting count for neither", () -> {
            BellPullHouse x = with("room a;room b;room c;wire u from a to b;couple m he a she a love 9;couple n he c she a love 3;");
            ok(x, "PARTED", x.day(5), 2);
            counts(x, 1, 0, 2);
            counts(x, 0, 5, 0);
        });
        test("15: on 9,999 DAYS at most", () -> {
            BellPullHouse x = onDay9999("room a;couple m he a she a love 1;");
            counts(x, 0, 9999, 0);
            no(x, "one more", x.day(1), 7);
            counts(x, 0, 9999, 0);
        });
    }

    private static void copiedLove() {
        test("16: no such TRAY", () -> {
            BellPullHouse x = with(THREE);
            for (int t : new int[] {-1, 4, LEAST, MOST}) {
                no(x, "copyLove(" + t + ")", x.copyLove(t), 1);
            }
        });
        test("16: the TRAY is MISSING", () -> {
            BellPullHouse x = with(THREE);
            x.tray(0, 0, 6);
            no(x, "copyLove", x.copyLove(3), 3);
        });
        test("16: a place too few", () -> {
            BellPullHouse x = with(THREE);
            x.tray(3, 0, 2);
            x.write(3, 0, 7);
            no(x, "copyLove", x.copyLove(3), 4);
            ok(x, "as it was", x.read(3, 0), 7);
            ok(x, "as it was", x.read(3, 1), 0);
        });
        test("16: no place at all", () -> {
            BellPullHouse x = with(THREE);
            x.tray(3, 0, 0);
            no(x, "copyLove", x.copyLove(3), 4);
        });
        test("16: just as many places", () -> {
            BellPullHouse x = with(THREE);
            x.tray(3, 0, 3);
            ok(x, "copyLove", x.copyLove(3), 3);
            ok(x, "first", x.read(3, 0), 3);
            ok(x, "second", x.read(3, 1), 1);
            ok(x, "last", x.read(3, 2), 5);
        });
        test("16: those behind stay", () -> {
            BellPullHouse x = with(THREE);
            x.tray(0, 3, 60);
            x.write(0, 3, 8);
            x.write(0, 59, 9);
            ok(x, "copyLove", x.copyLove(0), 3);
            ok(x, "the one behind", x.read(0, 3), 8);
            ok(x, "the last", x.read(0, 59), 9);
            ok(x, "the last LOVE", x.read(0, 2), 5);
        });
        test("16: no COUPLES, no places", () -> {
            BellPullHouse x = with("room a;");
            x.tray(0, 0, 0);
            ok(x, "copyLove", x.copyLove(0), 0);
        });
        test("16: no COUPLES, a MISSING TRAY all the same", () -> {
            BellPullHouse x = with("room a;");
            no(x, "copyLove", x.copyLove(0), 3);
        });
        test("16: six COUPLES, in each sort", () -> {
            BellPullHouse x = with(FULL);
            x.divorce(4);
            for (int sort = 0; sort < 4; sort++) {
                x.tray(sort, sort, 6);
                ok(x, "copyLove", x.copyLove(sort), 6);
                ok(x, "first", x.read(sort, 0), 9);
                ok(x, "a PARTED one", x.read(sort, 4), 0);
                ok(x, "last", x.read(sort, 5), 9);
            }
            x.tray(0, 3, 5);
            no(x, "five places", x.copyLove(0), 4);
        });
    }

    // ---- 17 and the DAY

    private static void daysThatCanBe() {
        test("17: 1 to 99", () -> {
            BellPullHouse x = with(THREE);
            for (int days : new int[] {0, -1, 100, 101, LEAST, MOST}) {
                no(x, "day(" + days + ")", x.day(days), 5);
            }
            ok(x, "the DAY", x.many(5), 0);
            loves(x, 3, 1, 5);
        });
        test("17: 1 DAY", () -> {
            BellPullHouse x = with("");
            ok(x, "day", x.day(1), 0);
            ok(x, "the DAY", x.many(5), 1);
        });
        test("17: 99 DAYS", () -> {
            BellPullHouse x = with("");
            ok(x, "day", x.day(99), 0);
            ok(x, "the DAY", x.many(5), 99);
        });
        test("17: the set of those that PARTED in them, on whichever DAY", () -> {
            BellPullHouse x = with("room a;room b;couple k he a she b love 1;couple l he a she b love 9;"
                    + "couple m he a she a love 1;couple n he a she b love 4;");
            ok(x, "99 DAYS", x.day(99), 0b1011);
            ok(x, "HOLDS", x.many(8), 0b0100);
        });
        test("17: those that PARTED ahead are not in the set", () -> {
            BellPullHouse x = with("room a;room b;couple k he a she b love 1;couple l he a she b love 2;couple m he a she b love 3;");
            x.divorce(1);
            ok(x, "first", x.day(1), 1);
            ok(x, "then", x.day(99), 4);
            ok(x, "none is left", x.day(1), 0);
        });
        test("17: all six PART", () -> {
            BellPullHouse x = with("room a;room b;couple i he a she b love 9;couple j he a she b love 8;couple k he a she b love 7;"
                    + "couple l he a she b love 3;couple m he a she b love 2;couple n he a she b love 1;");
            ok(x, "eight DAYS", x.day(8), 62);
            ok(x, "the ninth", x.day(1), 1);
            ok(x, "HOLD", x.many(8), 0);
        });
    }

    private static void theLastDay() {
        test("17: just DAY 9,999, from below", () -> {
            BellPullHouse x = with("");
            for (int i = 0; i < 100; i++) {
                x.day(99);
            }
            x.day(98);
            ok(x, "the DAY", x.many(5), 9998);
            no(x, "2 more", x.day(2), 7);
            ok(x, "the DAY stays", x.many(5), 9998);
            ok(x, "1 more", x.day(1), 0);
            ok(x, "the DAY", x.many(5), 9999);
            no(x, "beyond", x.day(1), 7);
            ok(x, "the DAY stays", x.many(5), 9999);
        });
        test("17: 99 to just DAY 9,999, not 1 beyond", () -> {
            BellPullHouse x = with("");
            for (int i = 0; i < 100; i++) {
                x.day(99);
            }
            x.day(1);
            no(x, "9,901 and 99", x.day(99), 7);
            ok(x, "9,901 and 98", x.day(98), 0);
            BellPullHouse y = with("");
            for (int i = 0; i < 100; i++) {
                y.day(99);
            }
            ok(y, "9,900 and 99", y.day(99), 0);
            ok(y, "the DAY", y.many(5), 9999);
        });
        test("17: beyond 9,999 none of the DAYS go by", () -> {
            BellPullHouse x = with("room a;room b;wire u from a to b;couple k he a she a love 1;couple l he b she b love 1;");
            for (int i = 0; i < 100; i++) {
                x.day(99);
            }
            x.wed(0, 1);
            x.damp(true);
            x.day(98);
            x.wed(0, 1);
            x.stretch(0, 0);
            no(x, "2 DAYS", x.day(2), 7);
            loves(x, 1, 9);
            isWire(x, 0, 0, 1);
            counts(x, 0, 9998, 0);
        });
        test("17: 5 goes ahead of 7", () -> {
            BellPullHouse x = onDay9999("");
            no(x, "0", x.day(0), 5);
            no(x, "-1", x.day(-1), 5);
            no(x, "100", x.day(100), 5);
            no(x, "1", x.day(1), 7);
            no(x, "99", x.day(99), 7);
        });
        test("all but DAYS is done on DAY 9,999, too", () -> {
            BellPullHouse x = onDay9999("room a;room b;wire u from a to b;couple m he a she b love 1;");
            ok(x, "damp", x.damp(true));
            ok(x, "cut", x.cut(0), 0);
            ok(x, "mend", x.mend(0), 0);
            ok(x, "wed", x.wed(0, 3));
            ok(x, "divorce", x.divorce(0), 3);
        });
    }

    private static void answersOfADay() {
        test("DAY 1: who is HE of a PARTED COUPLE does not pull", () -> {
            BellPullHouse x = with("room a;room b;wire u from a to b;couple m he b she b love 5;couple n he a she b love 5;");
            x.divorce(0);
            ok(x, "answers", x.answers(1), 1);
            x.day(1);
            loves(x, 0, 6);
            counts(x, 1, 1, 0);
        });
        test("DAY 2: SHE of a PARTED COUPLE answers nobody", () -> {
            BellPullHouse x = with("room a;couple m he a she a love 5;couple n he a she a love 5;");
            x.divorce(0);
            x.day(3);
            loves(x, 0, 8);
            counts(x, 0, 0, 0);
        });
        test("DAY 2: a pull at just POWER is answered", () -> {
            BellPullHouse x = with("power 5;room a;room b;wire u from a to b slack 4;couple m he a she b love 5;");
            x.day(1);
            loves(x, 6);
            counts(x, 0, 1, 0);
        });
        test("DAY 2: a pull 1 beyond POWER is not", () -> {
            BellPullHouse x = with("power 5;room a;room b;wire u from a to b slack 5;couple m he a she b love 5;");
            x.day(1);
            loves(x, 4);
            counts(x, 0, 0, 0);
        });
        test("DAY 2: from whom she is the least FAR, a later one, too", () -> {
            BellPullHouse x = with("power 9;room a;room b;room c;wire u from a to b slack 4;wire v from b to c slack 3;"
                    + "couple m he a she b love 5;couple n he c she b love 5;");
            x.day(1);
            loves(x, 3, 6);
            counts(x, 0, 0, 1);
            counts(x, 1, 1, 0);
        });
        test("DAY 2: of several her own, first or last of them", () -> {
            BellPullHouse x = with("room a;room b;room c;wire u from a to b;wire v from c to b;"
                    + "couple m he a she b love 5;couple n he c she b love 5;couple o he a she b love 5;");
            x.day(1);
            loves(x, 6, 6, 6);
        });
        test("DAY 2: her own, if another one is nearer, is not answered", () -> {
            BellPullHouse x = with("room a;room b;wire u from a to b;couple m he a she b love 5;couple n he b she a love 5;");
            x.day(1);
            loves(x, 3, 3);
            counts(x, 0, 0, 1);
            counts(x, 1, 0, 1);
        });
        test("DAY 2: of several others the first", () -> {
            BellPullHouse x = with("power 1;room a;room b;room c;room d;wire u from a to b;wire v from c to b;"
                    + "couple m he d she b love 5;couple n he c she d love 5;couple o he a she d love 5;");
            ok(x, "answers", x.answers(0), 1);
            x.divorce(1);
            ok(x, "answers", x.answers(0), 2);
        });
    }

    private static void loveOfADay() {
        test("LOVE is 1 more, 9 at most: from 8", () -> {
            BellPullHouse x = with("room a;couple m he a she a love 8;");
            x.day(1);
            loves(x, 9);
        });
        test("LOVE is 1 more, 9 at most: from 9", () -> {
            BellPullHouse x = with("room a;couple m he a she a love 9;");
            x.day(1);
            loves(x, 9);
            x.day(99);
            loves(x, 9);
        });
        test("LOVE is 1 more, 9 at most: from 1 in several DAYS", () -> {
            BellPullHouse x = with("room a;couple m he a she a love 1;");
            x.day(7);
            loves(x, 8);
            x.day(2);
            loves(x, 9);
            counts(x, 0, 9, 0);
        });
        test("another one: LOVE is 2 less", () -> {
            BellPullHouse x = with("room a;room b;couple m he b she a love 3;couple n he a she a love 5;");
            ok(x, "none PARTED", x.day(1), 0);
            loves(x, 1, 6);
        });
        test("another one, 0 at least: from 2", () -> {
            BellPullHouse x = with("room a;room b;couple m he b she a love 2;couple n he a she a love 5;");
            ok(x, "PARTED", x.day(1), 1);
            loves(x, 0, 6);
        });
        test("another one, 0 at least: from 1", () -> {
            BellPullHouse x = with("room a;room b;couple m he b she a love 1;couple n he a she a love 5;");
            ok(x, "PARTED", x.day(1), 1);
            loves(x, 0, 6);
            ok(x, "together", x.many(10), 6);
            counts(x, 0, 0, 1);
        });
        test("another one, 0 at least: from 9, in five DAYS", () -> {
            BellPullHouse x = with("room a;room b;couple m he b she a love 9;couple n he a she a love 5;");
            ok(x, "four", x.day(4), 0);
            loves(x, 1, 9);
            ok(x, "the fifth", x.day(1), 1);
            loves(x, 0, 9);
            counts(x, 0, 0, 5);
        });
        test("none: LOVE is 1 less, from 1 to 0", () -> {
            BellPullHouse x = with("room a;room b;couple m he b she a love 2;");
            ok(x, "first", x.day(1), 0);
            loves(x, 1);
            ok(x, "PARTED", x.day(1), 1);
            loves(x, 0);
        });
        test("none: LOVE stays 0 behind it", () -> {
            BellPullHouse x = with("room a;room b;couple m he b she a love 1;");
            x.day(99);
            loves(x, 0);
            ok(x, "HOLDS", x.couple(0, 3), 0);
        });
    }

    private static void partingOfADay() {
        test("DAY 3: those whose LOVE is 0 are PARTED", () -> {
            BellPullHouse x = with("room a;room b;couple m he b she a love 1;couple n he b she a love 2;");
            ok(x, "day", x.day(1), 1);
            ok(x, "HOLD", x.many(8), 2);
            ok(x, "PARTED", x.couple(0, 3), 0);
            ok(x, "with LOVE 1", x.couple(1, 3), 1);
        });
        test("DAY 3: who PARTS today has pulled today, and not tomorrow", () -> {
            BellPullHouse x = with("power 1;room a;room b;room c;wire u from a to b;wire v from b to c;"
                    + "couple m he a she c love 1;couple n he b she a love 5;");
            ok(x, "today", x.day(1), 1);
            loves(x, 0, 3);
            counts(x, 1, 0, 1);
            ok(x, "tomorrow", x.day(1), 0);
            loves(x, 0, 4);
            counts(x, 1, 1, 1);
        });
        test("DAY 3: who stands behind and PARTS today has pulled today, too", () -> {
            BellPullHouse x = with("power 1;room a;room b;room c;wire u from a to b;wire v from b to c;"
                    + "couple n he b she a love 5;couple m he a she c love 1;");
            ok(x, "today", x.day(1), 2);
            loves(x, 3, 0);
            ok(x, "in several DAYS", x.day(3), 0);
            loves(x, 6, 0);
        });
        test("DAY 3: partings within several DAYS bear upon those behind them", () -> {
            BellPullHouse x = with("power 1;room a;room b;room c;wire u from a to b;wire v from b to c;"
                    + "couple n he b she a love 9;couple m he a she c love 4;");
            ok(x, "three DAYS", x.day(3), 2);
            loves(x, 6, 0);
            counts(x, 0, 1, 2);
        });
    }

    private static void dampOfADay() {
        test("DAY 4: SLACK is 1 more, 9 at most: from 8, from 9", () -> {
            BellPullHouse x = with("room a;room b;wire u from a to b slack 8;wire v from a to b slack 9;wire w from a to b;");
            x.damp(true);
            x.day(1);
            isWire(x, 0, 9, 1);
            isWire(x, 1, 9, 1);
            isWire(x, 2, 1, 1);
            x.day(1);
            isWire(x, 0, 9, 1);
            isWire(x, 2, 2, 1);
        });
        test("DAY 4: SLACK is 9 behind 99 DAYS", () -> {
            BellPullHouse x = with("room a;room b;wire u from a to b;");
            x.damp(true);
            x.day(99);
            isWire(x, 0, 9, 1);
        });
        test("DAY 4: of each whole WIRE, not of a cut one", () -> {
            BellPullHouse x = with("room a;room b;wire u from a to b slack 3;wire v from a to b slack 3;");
            x.cut(0);
            x.damp(true);
            x.day(2);
            isWire(x, 0, 3, 0);
            isWire(x, 1, 5, 1);
        });
        test("DAY 4: not if it is dry", () -> {
            BellPullHouse x = with("room a;room b;wire u from a to b slack 3;");
            x.day(2);
            isWire(x, 0, 3, 1);
            x.damp(true);
            x.day(1);
            x.damp(false);
            x.day(5);
            isWire(x, 0, 4, 1);
        });
        test("DAY 4: comes behind the answers: at just POWER they ring once more", () -> {
            BellPullHouse x = with("power 3;room a;room b;wire u from a to b slack 2;couple m he a she b love 5;");
            x.damp(true);
            x.day(1);
            loves(x, 6);
            counts(x, 0, 1, 0);
            ok(x, "RUNG", x.many(9), 0);
            x.day(1);
            loves(x, 5);
        });
        test("DAY 4: without COUPLES, too", () -> {
            BellPullHouse x = with("room a;room b;wire u from a to b;");
            x.damp(true);
            ok(x, "day", x.day(4), 0);
            isWire(x, 0, 4, 1);
        });
        test("DAY 4: damp, without WIRES", () -> {
            BellPullHouse x = with("room a;couple m he a she a love 1;");
            x.damp(true);
            ok(x, "day", x.day(99), 0);
            loves(x, 9);
        });
        test("DAY 5: the DAY is 1 more, in an empty HOUSE, too", () -> {
            BellPullHouse x = new BellPullHouse();
            for (int d = 1; d < 5; d++) {
                ok(x, "day", x.day(1), 0);
                ok(x, "the DAY", x.many(5), d);
            }
        });
    }

    // ---- 18 to 26

    private static void dampAndDry() {
        test("18: it is dry at first", () -> {
            BellPullHouse x = with(THREE);
            no(x, "dry", x.damp(false), 9);
            ok(x, "many", x.many(6), 0);
        });
        test("18: it is damp", () -> {
            BellPullHouse x = with(THREE);
            ok(x, "damp", x.damp(true));
            no(x, "damp", x.damp(true), 9);
            ok(x, "many", x.many(6), 1);
            ok(x, "dry", x.damp(false));
            no(x, "dry", x.damp(false), 9);
            ok(x, "many", x.many(6), 0);
        });
        test("18: in a HOUSE without ROOMS", () -> {
            BellPullHouse x = new BellPullHouse();
            no(x, "dry", x.damp(false), 9);
            ok(x, "damp", x.damp(true));
        });
    }

    private static void cutsAndMends() {
        test("19, 20: no such WIRE", () -> {
            BellPullHouse x = with(THREE);
            for (int w : new int[] {-1, 3, 9, 10, 31, 32, LEAST, MOST}) {
                no(x, "cut(" + w + ")", x.cut(w), 2);
                no(x, "mend(" + w + ")", x.mend(w), 2);
            }
            ok(x, "whole", x.many(7), 7);
        });
        test("19: its SLACK, 9 at most, 0 at least", () -> {
            BellPullHouse x = with(FULL);
            x.stretch(8, 0);
            ok(x, "9", x.cut(9), 9);
            ok(x, "0", x.cut(8), 0);
            isWire(x, 9, 9, 0);
            isWire(x, 8, 0, 0);
        });
        test("19: it is cut", () -> {
            BellPullHouse x = with(THREE);
            x.cut(2);
            no(x, "cut", x.cut(2), 9);
            isWire(x, 2, 2, 0);
            ok(x, "another", x.cut(1), 0);
            no(x, "cut", x.cut(1), 9);
        });
        test("20: whole without SLACK", () -> {
            BellPullHouse x = with(THREE);
            no(x, "mend", x.mend(1), 9);
            isWire(x, 1, 0, 1);
        });
        test("20: whole with SLACK 1", () -> {
            BellPullHouse x = with(THREE);
            ok(x, "mend", x.mend(0), 1);
            isWire(x, 0, 0, 1);
            no(x, "again", x.mend(0), 9);
        });
        test("20: whole with SLACK 9", () -> {
            BellPullHouse x = with(FULL);
            ok(x, "mend", x.mend(9), 9);
            isWire(x, 9, 0, 1);
        });
        test("20: cut without SLACK", () -> {
            BellPullHouse x = with(THREE);
            x.cut(1);
            ok(x, "mend", x.mend(1), 0);
            isWire(x, 1, 0, 1);
        });
        test("20: cut with SLACK", () -> {
            BellPullHouse x = with(THREE);
            x.cut(2);
            ok(x, "mend", x.mend(2), 2);
            isWire(x, 2, 0, 1);
            no(x, "again", x.mend(2), 9);
        });
    }

    private static void stretches() {
        test("21: no such WIRE", () -> {
            BellPullHouse x = with(THREE);
            for (int w : new int[] {-1, 3, 9, 10, LEAST, MOST}) {
                no(x, "stretch(" + w + ")", x.stretch(w, 3), 2);
            }
        });
        test("21: 0 to 9", () -> {
            BellPullHouse x = with(THREE);
            for (int slack : new int[] {-1, 10, LEAST, MOST}) {
                no(x, "SLACK " + slack, x.stretch(2, slack), 5);
            }
            isWire(x, 2, 2, 1);
            ok(x, "9", x.stretch(2, 9));
            isWire(x, 2, 9, 1);
            ok(x, "0", x.stretch(2, 0));
            isWire(x, 2, 0, 1);
        });
        test("21: 2 goes ahead of 5", () -> {
            BellPullHouse x = with(THREE);
            no(x, "stretch", x.stretch(3, 10), 2);
            no(x, "stretch", x.stretch(-1, -1), 2);
        });
        test("21: to what it is already", () -> {
            BellPullHouse x = with(THREE);
            ok(x, "stretch", x.stretch(2, 2));
            isWire(x, 2, 2, 1);
        });
        test("21: whole or not", () -> {
            BellPullHouse x = with(THREE);
            x.cut(2);
            ok(x, "stretch", x.stretch(2, 5));
            isWire(x, 2, 5, 0);
            ok(x, "mend", x.mend(2), 5);
        });
    }

    private static void strings() {
        test("22: no such ROOM, the one or the other", () -> {
            BellPullHouse x = with(THREE);
            for (int r : new int[] {-1, 4, 7, 8, LEAST, MOST}) {
                no(x, "string(" + r + ", 0)", x.string(r, 0), 2);
                no(x, "string(0, " + r + ")", x.string(0, r), 2);
            }
            ok(x, "WIRES", x.many(1), 3);
        });
        test("22: from a ROOM to itself", () -> {
            BellPullHouse x = with(THREE);
            for (int r = 0; r < 4; r++) {
                no(x, "string", x.string(r, r), 5);
            }
            ok(x, "WIRES", x.many(1), 3);
        });
        test("22: 2 goes ahead of 5", () -> {
            BellPullHouse x = with(THREE);
            no(x, "string", x.string(4, 4), 2);
            no(x, "string", x.string(-1, -1), 2);
        });
        test("22: a tenth, not an 11th", () -> {
            BellPullHouse x = with(THREE);
            for (int w = 3; w < 10; w++) {
                ok(x, "its number", x.string(3, 0), w);
            }
            no(x, "the 11th", x.string(3, 0), 7);
            ok(x, "WIRES", x.many(1), 10);
            ok(x, "whole", x.many(7), 1023);
            ok(x, "from", x.wire(9, 0), 3);
            ok(x, "to", x.wire(9, 1), 0);
        });
        test("22: an 11th, though all are cut", () -> {
            BellPullHouse x = with(FULL);
            for (int w = 0; w < 10; w++) {
                x.cut(w);
            }
            no(x, "string", x.string(0, 1), 7);
            ok(x, "whole", x.many(7), 0);
        });
        test("22: 2, then 5, then 7", () -> {
            BellPullHouse x = with(FULL);
            no(x, "2", x.string(8, 8), 2);
            no(x, "2", x.string(0, 8), 2);
            no(x, "5", x.string(7, 7), 5);
            no(x, "7", x.string(7, 6), 7);
        });
        test("22: whole, without SLACK", () -> {
            BellPullHouse x = with(THREE);
            ok(x, "string", x.string(0, 3), 3);
            isWire(x, 3, 0, 1);
            ok(x, "FAR", x.far(0, 3), 1);
        });
        test("22: the first of a HOUSE without WIRES", () -> {
            BellPullHouse x = with("room a;room b;");
            no(x, "FAR", x.far(0, 1), 8);
            ok(x, "string", x.string(1, 0), 0);
            ok(x, "FAR", x.far(0, 1), 1);
        });
        test("22: without ROOMS", () -> {
            BellPullHouse x = new BellPullHouse();
            no(x, "string", x.string(0, 0), 2);
            no(x, "string", x.string(0, 1), 2);
        });
    }

    private static void moves() {
        test("23: no such COUPLE", () -> {
            BellPullHouse x = with(THREE);
            for (int c : new int[] {-1, 3, 5, 6, LEAST, MOST}) {
                no(x, "move(" + c + ")", x.move(c, 0, 1), 2);
            }
        });
        test("23: no such ROOM", () -> {
            BellPullHouse x = with(THREE);
            for (int r : new int[] {-1, 4, 7, 8, LEAST, MOST}) {
                no(x, "he to " + r, x.move(0, 0, r), 2);
                no(x, "she to " + r, x.move(0, 1, r), 2);
            }
            ok(x, "his", x.couple(0, 0), 0);
            ok(x, "hers", x.couple(0, 1), 2);
        });
        test("23: who below 0, above 1", () -> {
            BellPullHouse x = with(THREE);
            for (int who : new int[] {-1, 2, LEAST, MOST}) {
                no(x, "who " + who, x.move(0, who, 1), 5);
            }
            ok(x, "his", x.couple(0, 0), 0);
            ok(x, "hers", x.couple(0, 1), 2);
        });
        test("23: 2 goes ahead of 5", () -> {
            BellPullHouse x = with(THREE);
            no(x, "COUPLE", x.move(3, 2, 0), 2);
            no(x, "ROOM", x.move(0, 2, 4), 2);
        });
        test("23: 5 goes ahead of 9", () -> {
            BellPullHouse x = with(THREE);
            no(x, "his ROOM", x.move(0, 2, 0), 5);
            no(x, "her ROOM", x.move(0, -1, 2), 5);
        });
        test("23: there already", () -> {
            BellPullHouse x = with(THREE);
            no(x, "he", x.move(0, 0, 0), 9);
            no(x, "she", x.move(0, 1, 2), 9);
            ok(x, "he to hers", x.move(0, 0, 2), 0);
            no(x, "he", x.move(0, 0, 2), 9);
            ok(x, "FAR 0", x.couple(0, 4), 1);
        });
        test("23: in which ahead: the last ROOM, the first", () -> {
            BellPullHouse x = with(FULL);
            ok(x, "she to the last", x.move(0, 1, 7), 0);
            ok(x, "hers", x.couple(0, 1), 7);
            ok(x, "his", x.couple(0, 0), 0);
            ok(x, "she to the first", x.move(0, 1, 0), 7);
            ok(x, "the sixth", x.move(5, 0, 7), 5);
            ok(x, "his", x.couple(5, 0), 7);
            ok(x, "hers", x.couple(5, 1), 5);
        });
        test("23: of a PARTED COUPLE, too", () -> {
            BellPullHouse x = with(THREE);
            x.divorce(0);
            ok(x, "he", x.move(0, 0, 3), 0);
            ok(x, "PARTED", x.couple(0, 3), 0);
        });
    }

    private static void weddings() {
        test("24: no such COUPLE", () -> {
            BellPullHouse x = with(THREE);
            for (int c : new int[] {-1, 3, 5, 6, 31, 32, LEAST, MOST}) {
                no(x, "wed(" + c + ")", x.wed(c, 1), 2);
            }
            ok(x, "HOLD", x.many(8), 7);
        });
        test("24: 1 to 9", () -> {
            BellPullHouse x = with(THREE);
            for (int love : new int[] {0, -1, 10, LEAST, MOST}) {
                no(x, "LOVE " + love, x.wed(0, love), 5);
            }
            loves(x, 3);
            ok(x, "1", x.wed(0, 1));
            loves(x, 1);
            ok(x, "9", x.wed(0, 9));
            loves(x, 9);
        });
        test("24: 2 goes ahead of 5", () -> {
            BellPullHouse x = with(THREE);
            no(x, "wed", x.wed(3, 0), 2);
            no(x, "wed", x.wed(-1, 10), 2);
        });
        test("24: to what it is already", () -> {
            BellPullHouse x = with(THREE);
            ok(x, "wed", x.wed(0, 3));
            loves(x, 3);
        });
        test("24: a PARTED COUPLE HOLDS then; its DAYS stay", () -> {
            BellPullHouse x = with(THREE);
            x.day(1);
            x.divorce(0);
            int own = x.couple(0, 5);
            int another = x.couple(0, 6);
            due("DAYS", own + another, 1);
            ok(x, "wed", x.wed(0, 4));
            ok(x, "HOLDS", x.couple(0, 3), 1);
            loves(x, 4);
            counts(x, 0, own, another);
            ok(x, "the others", x.many(8) & 1, 1);
        });
        test("24: a PARTED COUPLE stays PARTED by LOVE 0", () -> {
            BellPullHouse x = with(THREE);
            x.divorce(0);
            no(x, "wed", x.wed(0, 0), 5);
            ok(x, "HOLDS", x.couple(0, 3), 0);
        });
        test("24: the sixth COUPLE", () -> {
            BellPullHouse x = with(FULL);
            x.divorce(5);
            ok(x, "wed", x.wed(5, 1));
            ok(x, "HOLD", x.many(8), 63);
            ok(x, "LOVE", x.many(10), 46);
        });
    }

    private static void divorces() {
        test("25: no such COUPLE", () -> {
            BellPullHouse x = with(THREE);
            for (int c : new int[] {-1, 3, 5, 6, 31, 32, LEAST, MOST}) {
                no(x, "divorce(" + c + ")", x.divorce(c), 2);
            }
            ok(x, "HOLD", x.many(8), 7);
        });
        test("25: its LOVE, which is 0 then", () -> {
            BellPullHouse x = with(FULL);
            ok(x, "9", x.divorce(5), 9);
            loves(x, 9, 9, 9, 9, 9, 0);
            ok(x, "HOLD", x.many(8), 31);
        });
        test("25: LOVE 1", () -> {
            BellPullHouse x = with(THREE);
            ok(x, "1", x.divorce(1), 1);
            loves(x, 3, 0, 5);
        });
        test("25: it is PARTED, by divorce", () -> {
            BellPullHouse x = with(THREE);
            x.divorce(0);
            no(x, "divorce", x.divorce(0), 9);
            loves(x, 0, 1, 5);
        });
        test("25: it is PARTED, by DAYS", () -> {
            BellPullHouse x = with("room a;room b;couple m he a she b love 1;");
            x.day(1);
            no(x, "divorce", x.divorce(0), 9);
        });
    }

    private static void rules() {
        test("26: what is neither 3 nor 4", () -> {
            BellPullHouse x = with(THREE);
            for (int what : new int[] {-1, 0, 1, 2, 5, 6, LEAST, MOST}) {
                no(x, "what " + what, x.rule(what, 5), 5);
            }
            ok(x, "POWER", x.many(3), 4);
            ok(x, "ODDS", x.many(4), 4);
        });
        test("26: POWER 1 to 99", () -> {
            BellPullHouse x = with(THREE);
            for (int much : new int[] {0, -1, 100, LEAST, MOST}) {
                no(x, "POWER " + much, x.rule(3, much), 5);
            }
            ok(x, "as it was", x.many(3), 4);
            ok(x, "99", x.rule(3, 99));
            ok(x, "99", x.many(3), 99);
            ok(x, "1", x.rule(3, 1));
            ok(x, "1", x.many(3), 1);
            ok(x, "ODDS", x.many(4), 4);
        });
        test("26: ODDS 0 to 16", () -> {
            BellPullHouse x = with(THREE);
            for (int much : new int[] {-1, 17, 99, LEAST, MOST}) {
                no(x, "ODDS " + much, x.rule(4, much), 5);
            }
            ok(x, "as it was", x.many(4), 4);
            ok(x, "16", x.rule(4, 16));
            ok(x, "16", x.many(4), 16);
            ok(x, "0", x.rule(4, 0));
            ok(x, "0", x.many(4), 0);
            ok(x, "POWER", x.many(3), 4);
        });
        test("26: to what it is already", () -> {
            BellPullHouse x = with(THREE);
            ok(x, "POWER", x.rule(3, 4));
            ok(x, "ODDS", x.rule(4, 4));
        });
        test("26: without ROOMS", () -> {
            BellPullHouse x = new BellPullHouse();
            ok(x, "POWER", x.rule(3, 99));
            ok(x, "ODDS", x.rule(4, 16));
        });
    }
}
