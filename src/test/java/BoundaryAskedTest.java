/**
 * Promises 27 to 50: each sentence of the document that names a boundary of what is only asked has a
 * test of its own here, on objects of its own.
 */
public final class BoundaryAskedTest {
    private static final int LEAST = Integer.MIN_VALUE;
    private static final int MOST = Integer.MAX_VALUE;
    private static final String ROOMS = "room a;room b;room c;room d;room e;room f;room g;room h;";
    /** The longest way that can be: 70. */
    private static final String CHAIN = "power 70;odds 1;" + ROOMS
            + "wire p from a to b slack 9;wire q from b to c slack 9;wire r from c to d slack 9;wire s from d to e slack 9;"
            + "wire t from e to f slack 9;wire u from f to g slack 9;wire v from g to h slack 9;"
            + "couple m he a she h love 9;";
    /** The WIRES of the longest way are told from its far end on, half of them the other way about. */
    private static final String BACKWARD = "power 70;odds 1;" + ROOMS
            + "wire v from g to h slack 9;wire u from g to f slack 9;wire t from e to f slack 9;wire s from e to d slack 9;"
            + "wire r from c to d slack 9;wire q from c to b slack 9;wire p from a to b slack 9;couple m he a she h love 9;";
    /** 0: FAR 3, RUNG; 1: FAR 4, just RUNG; 2: FAR 6, not RUNG. */
    private static final String THREE = "power 4;odds 4;room a;room b;room c;room d;"
            + "wire u from a to b slack 1;wire v from b to c;wire w from d to c slack 2;"
            + "couple m he a she c love 3;couple n he b she d love 1;couple o he a she d love 5;";
    /** From a to f two ways, alike in length. */
    private static final String TWO_WAYS = "power 9;room a;room b;room c;room d;room e;room f;"
            + "wire u from a to c;wire v from c to d;wire w from d to f;"
            + "wire x from a to b;wire y from b to e;wire z from e to f;";
    /** Ten WIRES of one length between two ROOMS. */
    private static final String TEN = "odds 1;room a;room b;"
            + "wire p from a to b;wire q from b to a;wire r from a to b;wire s from a to b;wire t from a to b;"
            + "wire u from a to b;wire v from a to b;wire w from a to b;wire x from a to b;wire y from a to b;"
            + "couple m he a she b love 1;";
    private static final String PAIR = "room a;room b;wire u from a to b;couple m he a she b love 5;";
    private static final String APART = "room a;room b;couple m he a she b love 5;";
    private static final String TOGETHER = "room a;couple m he a she a love 5;";
    private static final int[] NO_COUPLES = {-1, 3, 5, 6, 31, 32, LEAST, MOST};
    private static final int[] NO_ROOMS = {-1, 4, 7, 8, 31, 32, LEAST, MOST};

    private static int tests = 0;
    private static int broken = 0;
    private static boolean holds = true;
    private static String sentence = "";

    public static void main(String[] args) {
        lengths();
        waysByTheFirstRoom();
        heardPulls();
        rungBells();
        todaysAnswers();
        ways();
        partsOfHouses();
        loveAhead();
        partingAhead();
        silenceAhead();
        holdingAhead();
        mendsThatCanBe();
        mendsOfWires();
        cutsOfRooms();
        hangingCouples();
        vitalWires();
        pullers();
        crossings();
        pairsOfAll();
        swaps();
        games();
        moves();
        lasting();
        faithful();
        System.out.println(tests + " sentences, " + broken + " broken");
        if (broken != 0) {
            System.exit(1);
        }
    }

    // ---- what a test is made of

    private static void test(String words, Runnable body) {
        sentence = words;
        holds = true;
        body.run();
        tests++;
        if (!holds) {
            broken++;
        }
    }

    private static void due(String what, long got, long want) {
        if (got != want) {
            holds = false;
            System.out.println(sentence + ": " + what + " answered " + got + ", due is " + want);
        }
    }

    private static void ok(BellPullHouse x, String what, long got, long want) {
        due(what, got, want);
        due("status() of " + what, x.status(), 0);
    }

    private static void ok(BellPullHouse x, String what, boolean got) {
        ok(x, what, got ? 1 : 0, 1);
    }

    private static void no(BellPullHouse x, String what, long got, int status) {
        due(what, got, -1);
        due("status() of " + what, x.status(), status);
    }

    private static void no(BellPullHouse x, String what, boolean got, int status) {
        no(x, what, got ? 1 : -1, status);
    }

    private static BellPullHouse with(String s) {
        BellPullHouse x = new BellPullHouse();
        for (int i = 0; i < s.length(); i += 20) {
            int[] five = new int[5];
            for (int j = 0; j < 20; j++) {
                five[j / 4] = five[j / 4] << 8 | (i + j < s.length() ? s.charAt(i + j) & 255 : '~');
            }
            x.feed(five[0], five[1], five[2], five[3], five[4]);
        }
        x.house(s.length());
        due("house() of " + s, x.status(), 0);
        return x;
    }

    private static void is(BellPullHouse x, String what, boolean got, long top, long bottom) {
        ok(x, what, got);
        due("top() of " + what, x.top(), top);
        due("bottom() of " + what, x.bottom(), bottom);
    }

    private static BellPullHouse onDay9999(String s) {
        BellPullHouse x = with(s);
        for (int i = 0; i < 101; i++) {
            x.day(99);
        }
        due("the DAY", x.many(5), 9999);
        return x;
    }

    private static BellPullHouse allCut(String s) {
        BellPullHouse x = with(s);
        for (int w = x.many(1) - 1; w >= 0; w--) {
            x.cut(w);
        }
        due("whole WIRES", x.many(7), 0);
        return x;
    }

    // ---- 27 to 32

    private static void lengths() {
        test("27: no such ROOM, the one or the other", () -> {
            BellPullHouse x = with(THREE);
            for (int r : NO_ROOMS) {
                no(x, "far(" + r + ", 0)", x.far(r, 0), 2);
                no(x, "far(0, " + r + ")", x.far(0, r), 2);
                no(x, "far(" + r + ", " + r + ")", x.far(r, r), 2);
            }
        });
        test("27: itself: 0, with a WIRE or without", () -> {
            BellPullHouse x = with(PAIR);
            ok(x, "far", x.far(0, 0), 0);
            ok(x, "far", x.far(1, 1), 0);
            x.cut(0);
            ok(x, "without", x.far(1, 1), 0);
        });
        test("27: the last ROOM of eight", () -> {
            BellPullHouse x = with(CHAIN);
            ok(x, "itself", x.far(7, 7), 0);
            ok(x, "its neighbour", x.far(7, 6), 10);
        });
        test("27: 1 and SLACK of each WIRE, 70 at most", () -> {
            BellPullHouse x = with(CHAIN);
            ok(x, "there", x.far(0, 7), 70);
            ok(x, "back", x.far(7, 0), 70);
        });
        test("27: 1 at least between two ROOMS", () -> {
            BellPullHouse x = with(PAIR);
            ok(x, "far", x.far(0, 1), 1);
        });
        test("27: beyond POWER, too", () -> {
            BellPullHouse x = with(CHAIN);
            x.rule(3, 1);
            ok(x, "far", x.far(0, 7), 70);
        });
        test("27: both ways alike, however the WIRE was told", () -> {
            BellPullHouse x = with(THREE);
            ok(x, "there", x.far(3, 0), 6);
            ok(x, "back", x.far(0, 3), 6);
        });
        test("27: there is no way", () -> {
            BellPullHouse x = with(APART);
            no(x, "there", x.far(0, 1), 8);
            no(x, "back", x.far(1, 0), 8);
        });
        test("27: no way by a cut WIRE", () -> {
            BellPullHouse x = with(PAIR);
            x.cut(0);
            no(x, "far", x.far(0, 1), 8);
            x.mend(0);
            ok(x, "mended", x.far(0, 1), 1);
        });
        test("27: 2 goes ahead of 8", () -> {
            BellPullHouse x = with(APART);
            no(x, "far", x.far(0, 2), 2);
            no(x, "far", x.far(-1, 1), 2);
        });
        test("27: the least of several WIRES, the first, the last of them", () -> {
            BellPullHouse x = with("room a;room b;wire u from a to b slack 2;wire v from b to a slack 5;wire w from a to b slack 4;");
            ok(x, "the first", x.far(0, 1), 3);
            x.cut(0);
            ok(x, "the last", x.far(0, 1), 5);
            x.cut(2);
            ok(x, "the one that is left", x.far(0, 1), 6);
        });
        test("27: a way about is less than the WIRE itself, or is not", () -> {
            BellPullHouse x = with("room a;room b;room c;wire u from a to c slack 2;wire v from a to b;wire w from b to c;");
            ok(x, "about", x.far(0, 2), 2);
            x.stretch(0, 0);
            ok(x, "the WIRE itself", x.far(0, 2), 1);
        });
    }

    private static void waysByTheFirstRoom() {
        String byFirst = "power 2;room a;room b;room c;wire u from b to a;wire v from a to c;couple m he b she c love 1;";
        test("27, 31: a way by the first ROOM", () -> {
            BellPullHouse x = with(byFirst);
            ok(x, "far", x.far(1, 2), 2);
            ok(x, "RUNG", x.many(9), 1);
            isWay(x, 1, 2, 1, 0, 2);
            isWay(x, 2, 1, 2, 0, 1);
        });
        test("27, 31: a way by the last ROOM", () -> {
            BellPullHouse x = with("room a;room b;room c;wire u from b to c;wire v from a to c;");
            ok(x, "far", x.far(0, 1), 2);
            isWay(x, 0, 1, 0, 2, 1);
        });
        test("37 to 49: by the first ROOM, too", () -> {
            BellPullHouse x = with(byFirst);
            isCuts(x, 1, 2, 1, 1);
            ok(x, "hangs", x.hangs(0), 3);
            is(x, "lasts", x.lasts(0), 49, 64);
            x.cut(1);
            isMends(x, 1, 1, 2);
        });
        test("31: in a HOUSE of ten WIRES", () -> {
            BellPullHouse x = with(TEN);
            isWay(x, 0, 1, 0, 1);
            isWay(x, 1, 0, 1, 0);
        });
        test("37 to 49: WIRES told from the far end on", () -> {
            BellPullHouse x = with(BACKWARD);
            ok(x, "far", x.far(0, 7), 70);
            isCuts(x, 0, 7, 1, 1);
            ok(x, "hangs", x.hangs(0), 127);
            ok(x, "vital", x.vital(), 0);
            is(x, "lasts", x.lasts(0), 170859375, 268435456);
            ok(x, "game", x.game(0), 1);
            ok(x, "game", x.game(1), 0);
            ok(x, "game", x.game(2), 1);
            x.rule(3, 69);
            isMends(x, 1, 1, 1);
            isCuts(x, 0, 7, 0, 0);
            no(x, "hangs", x.hangs(0), 9);
            x.rule(3, 7);
            isMends(x, 1, 7, 127);
        });
        test("37 to 49: the same, from her to him", () -> {
            BellPullHouse x = with(BACKWARD);
            x.move(0, 0, 7);
            x.move(0, 1, 0);
            ok(x, "hangs", x.hangs(0), 127);
            is(x, "lasts", x.lasts(0), 170859375, 268435456);
            ok(x, "game", x.game(0), 1);
            ok(x, "game", x.game(2), 1);
            x.rule(3, 69);
            isMends(x, 1, 1, 1);
            x.rule(3, 7);
            isMends(x, 1, 7, 127);
        });
    }

    private static void heardPulls() {
        test("28: no such ROOM", () -> {
            BellPullHouse x = with(THREE);
            for (int r : NO_ROOMS) {
                no(x, "heard(" + r + ")", x.heard(r), 2);
            }
        });
        test("28: in itself, by the least POWER, without WIRES", () -> {
            BellPullHouse x = with("power 1;" + ROOMS);
            for (int r = 0; r < 8; r++) {
                ok(x, "heard", x.heard(r), 1 << r);
            }
        });
        test("28: no more than POWER FAR: just POWER, 1 beyond", () -> {
            BellPullHouse x = with(CHAIN);
            ok(x, "70", x.heard(0), 255);
            ok(x, "70 back", x.heard(7), 255);
            x.rule(3, 69);
            ok(x, "69", x.heard(0), 127);
            ok(x, "69 back", x.heard(7), 254);
            x.rule(3, 10);
            ok(x, "10", x.heard(0), 3);
            x.rule(3, 9);
            ok(x, "9", x.heard(0), 1);
            x.rule(3, 99);
            ok(x, "99", x.heard(3), 255);
        });
        test("28: not by a cut WIRE", () -> {
            BellPullHouse x = with(CHAIN);
            x.cut(3);
            ok(x, "here", x.heard(0), 15);
            ok(x, "there", x.heard(7), 240);
        });
    }

    private static void rungBells() {
        test("29: no such COUPLE", () -> {
            BellPullHouse x = with(THREE);
            for (int c : NO_COUPLES) {
                no(x, "rings(" + c + ")", x.rings(c), 2);
            }
        });
        test("29: at just POWER, not beyond", () -> {
            BellPullHouse x = with(THREE);
            ok(x, "POWER 4, from a", x.rings(0), 1);
            ok(x, "POWER 4, from b", x.rings(1), 7);
            x.rule(3, 6);
            ok(x, "POWER 6", x.rings(0), 7);
            x.rule(3, 5);
            ok(x, "POWER 5", x.rings(0), 1);
            x.rule(3, 2);
            ok(x, "POWER 2", x.rings(0), 0);
        });
        test("29: all, PARTED or not, his own, too", () -> {
            BellPullHouse x = with(THREE);
            x.divorce(1);
            x.divorce(0);
            ok(x, "of one that HOLDS", x.rings(2), 1);
            ok(x, "of a PARTED one", x.rings(1), 7);
        });
        test("29: all six", () -> {
            BellPullHouse x = with("power 1;room a;couple i he a she a love 1;couple j he a she a love 1;"
                    + "couple k he a she a love 1;couple l he a she a love 1;couple m he a she a love 1;couple n he a she a love 1;");
            ok(x, "the first", x.rings(0), 63);
            ok(x, "the sixth", x.rings(5), 63);
            no(x, "a seventh", x.rings(6), 2);
        });
    }

    private static void todaysAnswers() {
        test("30: no such COUPLE", () -> {
            BellPullHouse x = with(THREE);
            for (int c : NO_COUPLES) {
                no(x, "answers(" + c + ")", x.answers(c), 2);
            }
        });
        test("30: none", () -> {
            BellPullHouse x = with(APART);
            no(x, "answers", x.answers(0), 8);
        });
        test("30: none 1 beyond POWER, him at just POWER", () -> {
            BellPullHouse x = with(CHAIN);
            ok(x, "70", x.answers(0), 0);
            x.rule(3, 69);
            no(x, "69", x.answers(0), 8);
        });
        test("30: it is PARTED", () -> {
            BellPullHouse x = with("room a;couple m he a she a love 5;couple n he a she a love 5;");
            x.divorce(0);
            no(x, "the PARTED one", x.answers(0), 9);
            ok(x, "the other one", x.answers(1), 1);
        });
        test("30: 8 goes ahead of 9", () -> {
            BellPullHouse x = with(TOGETHER);
            x.divorce(0);
            no(x, "nobody pulls", x.answers(0), 8);
        });
        test("30: who is HE of a PARTED COUPLE is none", () -> {
            BellPullHouse x = with("room a;room b;couple m he a she b love 5;couple n he b she b love 5;");
            ok(x, "answers", x.answers(0), 1);
            x.divorce(1);
            no(x, "none", x.answers(0), 8);
        });
        test("30: the least FAR, of several her own, else the first", () -> {
            BellPullHouse x = with("room a;room b;couple m he a she b love 5;couple n he b she b love 5;"
                    + "couple o he b she a love 5;couple p he b she b love 5;");
            ok(x, "the first of others", x.answers(0), 1);
            ok(x, "her own, the first", x.answers(1), 1);
            ok(x, "her own, the last", x.answers(3), 3);
            ok(x, "the only one", x.answers(2), 0);
            x.divorce(1);
            ok(x, "the next", x.answers(0), 2);
        });
        test("30: it is only asked", () -> {
            BellPullHouse x = with(PAIR);
            x.answers(0);
            ok(x, "DAY", x.many(5), 0);
            ok(x, "LOVE", x.couple(0, 2), 5);
            ok(x, "DAYS", x.couple(0, 5), 0);
        });
    }

    private static void isWay(BellPullHouse x, int from, int to, int... rooms) {
        for (int k = 0; k < rooms.length; k++) {
            ok(x, "way(" + from + ", " + to + ", " + k + ")", x.way(from, to, k), rooms[k]);
        }
        no(x, "behind the way", x.way(from, to, rooms.length), 8);
    }

    private static void ways() {
        test("31: no such ROOM, the one or the other", () -> {
            BellPullHouse x = with(THREE);
            for (int r : NO_ROOMS) {
                no(x, "way(" + r + ", 0)", x.way(r, 0, 0), 2);
                no(x, "way(0, " + r + ")", x.way(0, r, 0), 2);
                no(x, "way(" + r + ", " + r + ")", x.way(r, r, 0), 2);
            }
        });
        test("31: no way", () -> {
            BellPullHouse x = with(APART);
            no(x, "its beginning", x.way(0, 1, 0), 8);
            no(x, "its end", x.way(0, 1, 1), 8);
        });
        test("31: no such place", () -> {
            BellPullHouse x = with(THREE);
            for (int k : new int[] {-1, 4, 7, 8, 9, LEAST, MOST}) {
                no(x, "place " + k, x.way(0, 3, k), 8);
            }
        });
        test("31: 2 goes ahead of 8", () -> {
            BellPullHouse x = with(APART);
            no(x, "way", x.way(2, 0, -1), 2);
            no(x, "way", x.way(0, -1, 8), 2);
        });
        test("31: both ends are on it", () -> {
            BellPullHouse x = with(PAIR);
            isWay(x, 0, 1, 0, 1);
            isWay(x, 1, 0, 1, 0);
        });
        test("31: a ROOM and itself", () -> {
            BellPullHouse x = with(THREE);
            isWay(x, 2, 2, 2);
            no(x, "ahead of it", x.way(2, 2, -1), 8);
            isWay(with(APART), 1, 1, 1);
        });
        test("31: by eight ROOMS", () -> {
            BellPullHouse x = with(CHAIN);
            isWay(x, 0, 7, 0, 1, 2, 3, 4, 5, 6, 7);
            isWay(x, 7, 0, 7, 6, 5, 4, 3, 2, 1, 0);
        });
        test("31: POWER does not matter", () -> {
            BellPullHouse x = with(CHAIN);
            x.rule(3, 1);
            ok(x, "the end", x.way(0, 7, 7), 7);
        });
        test("31: of several the first by ROOMS, one by one, from its own beginning", () -> {
            BellPullHouse x = with(TWO_WAYS);
            isWay(x, 0, 5, 0, 1, 4, 5);
            isWay(x, 5, 0, 5, 3, 2, 0);
        });
        test("31: first by ROOMS ahead of fewer ROOMS", () -> {
            BellPullHouse x = with(TWO_WAYS);
            x.string(0, 5);
            x.stretch(6, 2);
            isWay(x, 0, 5, 0, 1, 4, 5);
            x.stretch(6, 1);
            isWay(x, 0, 5, 0, 5);
        });
        test("31: the least FAR ahead of the first by ROOMS", () -> {
            BellPullHouse x = with(TWO_WAYS);
            x.stretch(5, 1);
            isWay(x, 0, 5, 0, 2, 3, 5);
            x.stretch(0, 1);
            isWay(x, 0, 5, 0, 1, 4, 5);
        });
        test("31: ways that part late", () -> {
            BellPullHouse x = with("room a;room b;room c;room d;room e;wire u from a to b;wire v from b to d;wire w from b to c;"
                    + "wire x from d to e;wire y from c to e;");
            isWay(x, 0, 4, 0, 1, 2, 4);
            isWay(x, 4, 0, 4, 2, 1, 0);
            x.cut(2);
            isWay(x, 0, 4, 0, 1, 3, 4);
        });
    }

    private static void partsOfHouses() {
        test("32: without ROOMS", () -> {
            BellPullHouse x = new BellPullHouse();
            ok(x, "parts", x.parts(), 0);
        });
        test("32: one ROOM", () -> {
            BellPullHouse x = with("room a;");
            ok(x, "parts", x.parts(), 1);
        });
        test("32: eight ROOMS without WIRES", () -> {
            BellPullHouse x = with(ROOMS);
            ok(x, "parts", x.parts(), 8);
        });
        test("32: eight ROOMS, one by one joined, beyond POWER, too", () -> {
            BellPullHouse x = with("power 1;" + ROOMS);
            for (int r = 7; r > 0; r--) {
                x.string(r, r - 1);
                x.stretch(7 - r, 9);
                ok(x, "parts", x.parts(), r);
            }
        });
        test("32: by whole WIRES alone", () -> {
            BellPullHouse x = with(CHAIN);
            ok(x, "whole", x.parts(), 1);
            x.cut(3);
            ok(x, "one cut", x.parts(), 2);
            ok(x, "none whole", allCut(CHAIN).parts(), 8);
        });
        test("32: a WIRE more within a part", () -> {
            BellPullHouse x = with(TEN);
            ok(x, "parts", x.parts(), 1);
        });
    }

    // ---- 33 to 36

    private static void loveAhead() {
        test("33: no such COUPLE", () -> {
            BellPullHouse x = with(THREE);
            for (int c : NO_COUPLES) {
                no(x, "loveIn(" + c + ")", x.loveIn(c, 0), 2);
            }
        });
        test("33: 0 to 300", () -> {
            BellPullHouse x = with(TOGETHER);
            for (int days : new int[] {-1, 301, 302, LEAST, MOST}) {
                no(x, "in " + days, x.loveIn(0, days), 5);
            }
            ok(x, "in 0", x.loveIn(0, 0), 5);
            ok(x, "in 300", x.loveIn(0, 300), 9);
        });
        test("33: 2 goes ahead of 5", () -> {
            BellPullHouse x = with(TOGETHER);
            no(x, "loveIn", x.loveIn(1, 301), 2);
            no(x, "loveIn", x.loveIn(-1, -1), 2);
        });
        test("33: DAY by DAY, 9 at most", () -> {
            BellPullHouse x = with(TOGETHER);
            int[] love = {5, 6, 7, 8, 9, 9, 9};
            for (int d = 0; d < love.length; d++) {
                ok(x, "in " + d, x.loveIn(0, d), love[d]);
            }
        });
        test("33: DAY by DAY, 0 at least", () -> {
            BellPullHouse x = with(APART);
            int[] love = {5, 4, 3, 2, 1, 0, 0};
            for (int d = 0; d < love.length; d++) {
                ok(x, "in " + d, x.loveIn(0, d), love[d]);
            }
            ok(x, "in 300", x.loveIn(0, 300), 0);
        });
        test("33: of a PARTED COUPLE: 0", () -> {
            BellPullHouse x = with(TOGETHER);
            x.divorce(0);
            ok(x, "in 0", x.loveIn(0, 0), 0);
            ok(x, "in 300", x.loveIn(0, 300), 0);
        });
        test("33: DAY 9,999 does not matter", () -> {
            BellPullHouse x = onDay9999(PAIR);
            x.wed(0, 5);
            ok(x, "in 1", x.loveIn(0, 1), 6);
            x.cut(0);
            ok(x, "in 300", x.loveIn(0, 300), 0);
            ok(x, "in 4", x.loveIn(0, 4), 1);
        });
        test("33: damp as it is now", () -> {
            BellPullHouse x = with("power 2;room a;room b;wire u from a to b;couple m he a she b love 5;");
            ok(x, "dry", x.loveIn(0, 9), 9);
            x.damp(true);
            int[] love = {5, 6, 7, 6, 5, 4, 3, 2, 1, 0, 0};
            for (int d = 0; d < love.length; d++) {
                ok(x, "damp, in " + d, x.loveIn(0, d), love[d]);
            }
        });
        test("33: only asked: all stays as it is", () -> {
            BellPullHouse x = with(PAIR);
            x.damp(true);
            x.loveIn(0, 300);
            ok(x, "DAY", x.many(5), 0);
            ok(x, "LOVE", x.couple(0, 2), 5);
            ok(x, "SLACK", x.wire(0, 2), 0);
            ok(x, "own DAYS", x.couple(0, 5), 0);
        });
    }

    private static void partingAhead() {
        test("34: no such COUPLE", () -> {
            BellPullHouse x = with(THREE);
            for (int c : NO_COUPLES) {
                no(x, "partsIn(" + c + ")", x.partsIn(c), 2);
            }
        });
        test("34: PARTED already: in 0", () -> {
            BellPullHouse x = with(TOGETHER);
            x.divorce(0);
            ok(x, "partsIn", x.partsIn(0), 0);
        });
        test("34: in none", () -> {
            BellPullHouse x = with(TOGETHER);
            no(x, "partsIn", x.partsIn(0), 8);
        });
        test("34: in none, though LOVE falls for a while", () -> {
            BellPullHouse x = with("power 1;room a;room b;couple m he b she a love 9;couple n he a she b love 1;couple o he a she a love 9;");
            x.divorce(2);
            ok(x, "crossed", x.answers(0), 1);
            x.string(0, 1);
            ok(x, "partsIn", x.partsIn(1), 1);
            no(x, "in none", x.partsIn(0), 8);
            ok(x, "LOVE", x.loveIn(0, 1), 7);
        });
        test("34: LOVE 1 by none: in 1; LOVE 9: in 9", () -> {
            BellPullHouse x = with("room a;room b;couple m he a she b love 1;couple n he a she b love 9;");
            ok(x, "1", x.partsIn(0), 1);
            ok(x, "9", x.partsIn(1), 9);
        });
        test("34: by another one: LOVE 1 in 1, 2 in 1, 3 in 2, 9 in 5", () -> {
            BellPullHouse x = with("room a;room b;couple k he b she b love 9;couple l he a she b love 1;couple m he a she b love 2;"
                    + "couple n he a she b love 3;couple o he a she b love 9;");
            ok(x, "1", x.partsIn(1), 1);
            ok(x, "2", x.partsIn(2), 1);
            ok(x, "3", x.partsIn(3), 2);
            ok(x, "9", x.partsIn(4), 5);
            no(x, "none", x.partsIn(0), 8);
        });
        test("34: damp: they ring for a while", () -> {
            BellPullHouse x = with("power 9;room a;room b;wire u from a to b;couple m he a she b love 9;");
            no(x, "dry", x.partsIn(0), 8);
            x.damp(true);
            ok(x, "damp", x.partsIn(0), 18);
            x.rule(3, 10);
            no(x, "POWER 10 is beyond all SLACK", x.partsIn(0), 8);
        });
        test("34: DAY 9,999 does not matter", () -> {
            BellPullHouse x = onDay9999(APART);
            x.wed(0, 9);
            ok(x, "partsIn", x.partsIn(0), 9);
            ok(x, "the DAY", x.many(5), 9999);
        });
    }

    private static void silenceAhead() {
        test("35: no such COUPLE", () -> {
            BellPullHouse x = with(THREE);
            for (int c : NO_COUPLES) {
                no(x, "silentIn(" + c + ")", x.silentIn(c), 2);
            }
        });
        test("35: not RUNG already: in 0, dry or damp", () -> {
            BellPullHouse x = with(THREE);
            ok(x, "dry", x.silentIn(2), 0);
            x.damp(true);
            ok(x, "damp", x.silentIn(2), 0);
        });
        test("35: dry: in none", () -> {
            BellPullHouse x = with(THREE);
            no(x, "at just POWER", x.silentIn(1), 8);
            no(x, "below", x.silentIn(0), 8);
        });
        test("35: damp, at just POWER: in 1", () -> {
            BellPullHouse x = with(THREE);
            x.damp(true);
            ok(x, "silentIn", x.silentIn(1), 1);
            ok(x, "below by 1, two WIRES", x.silentIn(0), 1);
            x.rule(3, 5);
            ok(x, "just RUNG behind a DAY", x.silentIn(0), 2);
        });
        test("35: damp: in 9 at most, by SLACK 9", () -> {
            BellPullHouse x = with("power 9;room a;room b;wire u from a to b;couple m he a she b love 9;");
            x.damp(true);
            ok(x, "POWER 9", x.silentIn(0), 9);
            x.rule(3, 10);
            no(x, "POWER 10", x.silentIn(0), 8);
        });
        test("35: damp, in the same ROOM: in none", () -> {
            BellPullHouse x = with(TOGETHER);
            x.damp(true);
            no(x, "silentIn", x.silentIn(0), 8);
        });
        test("35: PARTED or not", () -> {
            BellPullHouse x = with(PAIR);
            x.divorce(0);
            no(x, "dry", x.silentIn(0), 8);
            x.damp(true);
            ok(x, "damp", x.silentIn(0), 8);
            due("status()", x.status(), 0);
        });
        test("35: DAY 9,999 does not matter", () -> {
            BellPullHouse x = onDay9999(PAIR);
            x.damp(true);
            ok(x, "silentIn", x.silentIn(0), 8);
            ok(x, "SLACK", x.wire(0, 2), 0);
        });
    }

    private static void holdingAhead() {
        test("36: 0 to 300", () -> {
            BellPullHouse x = with(THREE);
            for (int days : new int[] {-1, 301, 302, LEAST, MOST}) {
                no(x, "in " + days, x.holdIn(days), 5);
            }
            ok(x, "in 0", x.holdIn(0), 7);
        });
        test("36: all six, none", () -> {
            BellPullHouse x = with("room a;room b;couple i he a she b love 9;couple j he a she b love 8;couple k he a she b love 7;"
                    + "couple l he a she b love 3;couple m he a she b love 2;couple n he a she b love 1;");
            ok(x, "in 0", x.holdIn(0), 63);
            ok(x, "in 1", x.holdIn(1), 31);
            ok(x, "in 2", x.holdIn(2), 15);
            ok(x, "in 8", x.holdIn(8), 1);
            ok(x, "in 9", x.holdIn(9), 0);
            ok(x, "in 300", x.holdIn(300), 0);
            ok(x, "now", x.many(8), 63);
            ok(x, "the DAY", x.many(5), 0);
        });
        test("36: for ever", () -> {
            BellPullHouse x = with(TOGETHER);
            ok(x, "in 300", x.holdIn(300), 1);
        });
        test("36: without COUPLES", () -> {
            BellPullHouse x = new BellPullHouse();
            ok(x, "in 0", x.holdIn(0), 0);
            ok(x, "in 300", x.holdIn(300), 0);
            no(x, "in 301", x.holdIn(301), 5);
        });
        test("36: DAY 9,999 does not matter", () -> {
            BellPullHouse x = onDay9999(APART);
            x.wed(0, 2);
            ok(x, "in 1", x.holdIn(1), 1);
            ok(x, "in 2", x.holdIn(2), 0);
            ok(x, "in 300", x.holdIn(300), 0);
        });
    }

    // ---- 37 to 42

    private static void isMends(BellPullHouse x, int couples, int many, int set) {
        ok(x, "mends(" + couples + ")", x.mends(couples), many);
        ok(x, "mendSet(" + couples + ")", x.mendSet(couples), set);
    }

    private static void noMends(BellPullHouse x, int couples, int status) {
        no(x, "mends(" + couples + ")", x.mends(couples), status);
        no(x, "mendSet(" + couples + ")", x.mendSet(couples), status);
    }

    private static void mendsThatCanBe() {
        test("37, 38: a set with a COUPLE that there is not", () -> {
            BellPullHouse x = with(THREE);
            for (int set : new int[] {-1, 8, 9, 15, 64, LEAST, MOST}) {
                noMends(x, set, 5);
            }
        });
        test("37, 38: of all six, not of a seventh", () -> {
            BellPullHouse x = with("room a;couple i he a she a love 1;couple j he a she a love 1;"
                    + "couple k he a she a love 1;couple l he a she a love 1;couple m he a she a love 1;couple n he a she a love 1;");
            isMends(x, 63, 0, 0);
            noMends(x, 64, 5);
            noMends(x, 127, 5);
        });
        test("37, 38: without COUPLES", () -> {
            BellPullHouse x = new BellPullHouse();
            isMends(x, 0, 0, 0);
            noMends(x, 1, 5);
        });
        test("37, 38: of none: no WIRE, though none can be RUNG", () -> {
            isMends(with(APART), 0, 0, 0);
            isMends(allCut(CHAIN), 0, 0, 0);
        });
        test("37, 38: 5 goes ahead of 8", () -> {
            BellPullHouse x = with(APART);
            noMends(x, 1, 8);
            noMends(x, 2, 5);
            noMends(x, 3, 5);
        });
        test("37, 38: not by all: there is no WIRE", () -> noMends(with(APART), 1, 8));
        test("37, 38: not by all: beyond POWER with all mended", () -> {
            BellPullHouse x = with(CHAIN);
            x.rule(3, 6);
            noMends(x, 1, 8);
            x.rule(3, 7);
            isMends(x, 1, 7, 127);
        });
        test("37, 38: not by all: one of the set can't be RUNG", () -> {
            BellPullHouse x = with("room a;room b;couple m he a she a love 1;couple n he a she b love 1;");
            isMends(x, 1, 0, 0);
            noMends(x, 2, 8);
            noMends(x, 3, 8);
        });
    }

    private static void mendsOfWires() {
        test("37, 38: RUNG already", () -> {
            BellPullHouse x = with(THREE);
            isMends(x, 3, 0, 0);
        });
        test("37, 38: at just POWER already, 1 beyond", () -> {
            BellPullHouse x = with(CHAIN);
            isMends(x, 1, 0, 0);
            x.rule(3, 69);
            isMends(x, 1, 1, 1);
        });
        test("37, 38: a WIRE that is cut, the first, the last of ten", () -> {
            BellPullHouse x = allCut(TEN);
            isMends(x, 1, 1, 1);
            x.rule(3, 1);
            isMends(x, 1, 1, 1);
            BellPullHouse y = allCut("room a;room b;room c;wire p from a to c;wire q from a to c;wire r from a to c;wire s from a to c;"
                    + "wire t from a to c;wire u from a to c;wire v from a to c;wire w from a to c;wire x from a to c;"
                    + "wire y from a to b;couple m he a she b love 1;");
            isMends(y, 1, 1, 512);
        });
        test("37, 38: a whole WIRE with SLACK", () -> {
            BellPullHouse x = with("power 1;room a;room b;wire u from a to b slack 1;couple m he a she b love 1;");
            isMends(x, 1, 1, 1);
            x.rule(3, 2);
            isMends(x, 1, 0, 0);
        });
        test("37, 38: a cut WIRE is mended without its SLACK", () -> {
            BellPullHouse x = allCut("power 1;room a;room b;wire u from a to b slack 9;couple m he a she b love 1;");
            isMends(x, 1, 1, 1);
        });
        test("37, 38: the fewest ahead of the least as a number", () -> {
            BellPullHouse x = allCut("power 2;room a;room b;room c;wire u from a to b;wire v from b to c;wire w from a to c;"
                    + "couple m he a she c love 1;");
            isMends(x, 1, 1, 4);
        });
        test("37, 38: of several sets the least as a number", () -> {
            BellPullHouse x = allCut("power 2;room a;room b;room c;room d;wire u from a to b;wire v from a to d;wire w from d to c;"
                    + "wire x from b to c;couple m he a she c love 1;");
            isMends(x, 1, 2, 6);
        });
        test("37, 38: one WIRE for two COUPLES, two for two", () -> {
            BellPullHouse x = allCut("room a;room b;room c;wire u from a to b;wire v from b to c;"
                    + "couple m he a she b love 1;couple n he b she a love 1;couple o he b she c love 1;");
            isMends(x, 3, 1, 1);
            isMends(x, 7, 2, 3);
            isMends(x, 4, 1, 2);
        });
        test("37, 38: PARTED or not", () -> {
            BellPullHouse x = allCut(PAIR);
            x.divorce(0);
            isMends(x, 1, 1, 1);
        });
        test("37, 38: all ten WIRES", () -> {
            BellPullHouse x = allCut("power 2;" + ROOMS + "wire p from a to b;wire q from b to c;wire r from c to d;wire s from d to e;"
                    + "wire t from e to f;wire u from f to g;wire v from g to h;wire w from h to a;wire x from b to f;wire y from d to h;"
                    + "couple i he a she c love 1;couple j he c she e love 1;couple k he e she g love 1;couple l he g she a love 1;"
                    + "couple m he b she f love 1;couple n he d she h love 1;");
            isMends(x, 63, 10, 1023);
            isMends(x, 31, 9, 511);
            isMends(x, 32, 1, 512);
        });
        test("37, 38: only asked", () -> {
            BellPullHouse x = allCut(PAIR);
            x.mends(1);
            x.mendSet(1);
            ok(x, "whole", x.many(7), 0);
        });
    }

    private static void isCuts(BellPullHouse x, int room, int other, int many, int set) {
        ok(x, "cuts(" + room + ", " + other + ")", x.cuts(room, other), many);
        ok(x, "cutSet(" + room + ", " + other + ")", x.cutSet(room, other), set);
        ok(x, "cuts(" + other + ", " + room + ")", x.cuts(other, room), many);
        ok(x, "cutSet(" + other + ", " + room + ")", x.cutSet(other, room), set);
    }

    private static void noCuts(BellPullHouse x, int room, int other, int status) {
        no(x, "cuts(" + room + ", " + other + ")", x.cuts(room, other), status);
        no(x, "cutSet(" + room + ", " + other + ")", x.cutSet(room, other), status);
    }

    private static void cutsOfRooms() {
        test("39, 40: no such ROOM, the one or the other", () -> {
            BellPullHouse x = with(THREE);
            for (int r : NO_ROOMS) {
                noCuts(x, r, 0, 2);
                noCuts(x, 0, r, 2);
            }
        });
        test("39, 40: a ROOM and itself", () -> {
            BellPullHouse x = with(THREE);
            for (int r = 0; r < 4; r++) {
                noCuts(x, r, r, 5);
            }
        });
        test("39, 40: 2 goes ahead of 5", () -> {
            BellPullHouse x = with(THREE);
            noCuts(x, 4, 4, 2);
            noCuts(x, -1, -1, 2);
        });
        test("39, 40: not HEARD already: none, without a way, with all cut", () -> {
            isCuts(with(APART), 0, 1, 0, 0);
            isCuts(allCut(PAIR), 0, 1, 0, 0);
        });
        test("39, 40: just POWER FAR, 1 beyond", () -> {
            BellPullHouse x = with(CHAIN);
            isCuts(x, 0, 7, 1, 1);
            x.rule(3, 69);
            isCuts(x, 0, 7, 0, 0);
        });
        test("39, 40: of several sets the least as a number", () -> isCuts(with(CHAIN), 2, 5, 1, 4));
        test("39, 40: the fewest ahead of the least as a number", () -> isCuts(
                with("room a;room b;room c;wire u from a to b;wire v from a to b;wire w from b to c;"), 0, 2, 1, 4));
        test("39, 40: two of several pairs", () -> isCuts(
                with("room a;room b;room c;wire u from a to b;wire v from a to c;wire w from b to c;"), 0, 2, 2, 3));
        test("39, 40: all ten", () -> isCuts(with(TEN), 0, 1, 10, 1023));
        test("39, 40: a way beyond POWER need not be cut, one of just POWER must", () -> {
            BellPullHouse x = with("power 9;room a;room b;wire u from a to b slack 9;wire v from a to b;");
            isCuts(x, 0, 1, 1, 2);
            x.rule(3, 10);
            isCuts(x, 0, 1, 2, 3);
        });
        test("39, 40: whole WIRES alone", () -> {
            BellPullHouse x = with(TEN);
            x.cut(0);
            x.cut(9);
            isCuts(x, 0, 1, 8, 510);
        });
    }

    private static void hangingCouples() {
        test("41: no such COUPLE", () -> {
            BellPullHouse x = with(THREE);
            for (int c : NO_COUPLES) {
                no(x, "hangs(" + c + ")", x.hangs(c), 2);
            }
        });
        test("41: it is not RUNG", () -> {
            BellPullHouse x = with(THREE);
            no(x, "beyond POWER", x.hangs(2), 9);
            BellPullHouse y = with(APART);
            no(y, "without a way", y.hangs(0), 9);
        });
        test("41: at just POWER", () -> {
            BellPullHouse x = with(CHAIN);
            ok(x, "all", x.hangs(0), 127);
            x.rule(3, 69);
            no(x, "1 beyond", x.hangs(0), 9);
        });
        test("41: on none: in the same ROOM, by two WIRES", () -> {
            BellPullHouse x = with(TOGETHER);
            ok(x, "the same ROOM", x.hangs(0), 0);
            BellPullHouse y = with(TEN);
            ok(y, "ten WIRES", y.hangs(0), 0);
        });
        test("41: on the last that is whole", () -> {
            BellPullHouse x = with(TEN);
            for (int w = 0; w < 9; w++) {
                x.cut(w);
            }
            ok(x, "the tenth", x.hangs(0), 512);
        });
        test("41: the other way is of just POWER, or 1 beyond", () -> {
            BellPullHouse x = with("power 9;room a;room b;wire u from a to b slack 9;wire v from a to b;couple m he a she b love 1;");
            ok(x, "beyond", x.hangs(0), 2);
            x.rule(3, 10);
            ok(x, "just POWER", x.hangs(0), 0);
        });
        test("41: PARTED or not", () -> {
            BellPullHouse x = with(PAIR);
            x.divorce(0);
            ok(x, "hangs", x.hangs(0), 1);
        });
    }

    private static void vitalWires() {
        test("42: no WIRES", () -> {
            BellPullHouse x = with(APART);
            no(x, "vital", x.vital(), 8);
            BellPullHouse y = new BellPullHouse();
            no(y, "an empty HOUSE", y.vital(), 8);
        });
        test("42: no whole WIRES", () -> {
            BellPullHouse x = allCut(TEN);
            no(x, "vital", x.vital(), 8);
        });
        test("42: none HANGS: the first whole WIRE", () -> {
            BellPullHouse x = with(TEN);
            ok(x, "vital", x.vital(), 0);
            x.cut(0);
            ok(x, "vital", x.vital(), 1);
        });
        test("42: without COUPLES: the first whole WIRE", () -> {
            BellPullHouse x = with("room a;room b;wire u from a to b;wire v from a to b;");
            x.cut(0);
            ok(x, "vital", x.vital(), 1);
        });
        test("42: the only whole one, the tenth", () -> {
            BellPullHouse x = with(TEN);
            for (int w = 0; w < 9; w++) {
                x.cut(w);
            }
            ok(x, "vital", x.vital(), 9);
        });
        test("42: of several the first", () -> {
            BellPullHouse x = with(CHAIN);
            ok(x, "vital", x.vital(), 0);
            x.move(0, 0, 2);
            ok(x, "vital", x.vital(), 2);
        });
        test("42: the most COUPLES, PARTED or not, not those that are not RUNG", () -> {
            BellPullHouse x = with("power 1;room a;room b;room c;wire u from a to b;wire v from b to c;"
                    + "couple m he a she b love 1;couple n he b she c love 1;couple o he c she b love 1;couple p he a she c love 1;");
            ok(x, "vital", x.vital(), 1);
            x.divorce(1);
            x.divorce(2);
            ok(x, "PARTED", x.vital(), 1);
            x.move(2, 0, 0);
            ok(x, "as many", x.vital(), 0);
        });
    }

    // ---- 43 to 46

    private static void pullers() {
        test("43: a set with a ROOM that there is not", () -> {
            BellPullHouse x = with(THREE);
            for (int set : new int[] {-1, 16, 17, 256, LEAST, MOST}) {
                no(x, "pulled(" + set + ")", x.pulled(set), 5);
            }
            ok(x, "all ROOMS", x.pulled(15), 2 + 4);
        });
        test("43: eight ROOMS, not a ninth", () -> {
            BellPullHouse x = with(CHAIN);
            ok(x, "all", x.pulled(255), 255);
            no(x, "a ninth", x.pulled(256), 5);
            no(x, "nine", x.pulled(511), 5);
        });
        test("43: in no ROOM", () -> {
            BellPullHouse x = with(THREE);
            ok(x, "pulled", x.pulled(0), 0);
        });
        test("43: without ROOMS", () -> {
            BellPullHouse x = new BellPullHouse();
            ok(x, "none", x.pulled(0), 0);
            no(x, "one", x.pulled(1), 5);
        });
        test("43: HEARD in just these, itself, too", () -> {
            BellPullHouse x = with("power 1;room a;room b;room c;room d;wire u from a to b;wire v from b to c;");
            ok(x, "a, b", x.pulled(3), 1);
            ok(x, "a, b, c", x.pulled(7), 2);
            ok(x, "b, c", x.pulled(6), 4);
            ok(x, "b", x.pulled(2), 0);
            ok(x, "d", x.pulled(8), 8);
            ok(x, "all", x.pulled(15), 0);
        });
        test("43: at just POWER", () -> {
            BellPullHouse x = with(CHAIN);
            x.rule(3, 10);
            ok(x, "10", x.pulled(3), 1);
            x.rule(3, 9);
            ok(x, "9", x.pulled(3), 0);
            ok(x, "9", x.pulled(1), 1);
            ok(x, "9", x.pulled(128), 128);
        });
    }

    private static void crossings() {
        String crossed = "power 2;room a;room b;room c;wire u from a to b;wire v from b to c;"
                + "couple m he a she c love 5;couple n he c she b love 5;";
        test("44: no such ROOM", () -> {
            BellPullHouse x = with(THREE);
            for (int r : NO_ROOMS) {
                no(x, "crossed(" + r + ")", x.crossed(r), 2);
            }
        });
        test("44: without COUPLES", () -> {
            BellPullHouse x = with("room a;");
            ok(x, "crossed", x.crossed(0), 0);
        });
        test("44: where a pull is HEARD, at just POWER", () -> {
            BellPullHouse x = with(crossed);
            ok(x, "2 FAR", x.crossed(0), 1);
            x.rule(3, 1);
            ok(x, "1 beyond", x.crossed(0), 0);
            ok(x, "there", x.crossed(2), 1);
        });
        test("44: her own is no other one, though another is as FAR", () -> {
            BellPullHouse x = with(crossed);
            ok(x, "as FAR", x.answers(1), 1);
            ok(x, "crossed", x.crossed(1), 1);
            x.move(1, 1, 0);
            ok(x, "SHE beside another HE", x.crossed(1), 3);
        });
        test("44: who would answer none is not in it", () -> {
            BellPullHouse x = with("room a;room b;couple m he a she b love 5;");
            ok(x, "none", x.crossed(1), 0);
        });
        test("44: a PARTED one is not in it", () -> {
            BellPullHouse x = with(crossed);
            x.divorce(0);
            ok(x, "crossed", x.crossed(2), 0);
            no(x, "answers", x.answers(0), 9);
        });
        test("44: who is HE of a PARTED one is not answered", () -> {
            BellPullHouse x = with(crossed);
            x.divorce(1);
            ok(x, "crossed", x.crossed(2), 0);
            ok(x, "answers", x.answers(0), 0);
        });
        test("44: five of six", () -> {
            BellPullHouse x = with("room a;room b;couple i he b she b love 1;couple j he a she b love 1;couple k he a she b love 1;"
                    + "couple l he a she b love 1;couple m he a she b love 1;couple n he a she b love 1;");
            ok(x, "crossed", x.crossed(1), 62);
            ok(x, "in the other ROOM", x.crossed(0), 0);
        });
    }

    private static void pairsOfAll() {
        test("45: no such COUPLE", () -> {
            BellPullHouse x = with(THREE);
            for (int c : NO_COUPLES) {
                no(x, "pair(" + c + ")", x.pair(c), 2);
            }
        });
        test("45: none: nobody is HEARD from where he is", () -> {
            BellPullHouse x = with(APART);
            no(x, "pair", x.pair(0), 8);
        });
        test("45: at just POWER, 1 beyond", () -> {
            BellPullHouse x = with(CHAIN);
            ok(x, "70", x.pair(0), 0);
            x.rule(3, 69);
            no(x, "69", x.pair(0), 8);
        });
        test("45: the least FAR first, of several the first", () -> {
            BellPullHouse x = with("room a;room b;wire u from a to b;couple l he b she b love 1;couple m he a she a love 1;couple n he a she a love 1;");
            ok(x, "the first", x.pair(0), 0);
            ok(x, "the second", x.pair(1), 1);
            ok(x, "the third", x.pair(2), 2);
        });
        test("45: of as FAR ones she keeps him whom she has", () -> {
            BellPullHouse x = with("power 1;room a;room b;room c;room d;wire u from a to b;wire v from c to b;"
                    + "couple m he a she b love 1;couple n he c she d love 1;");
            ok(x, "whom she has", x.pair(0), 0);
            no(x, "the other one", x.pair(1), 8);
        });
        test("45: one who is FARTHER has none then", () -> {
            BellPullHouse x = with("power 2;room a;room b;room c;room d;wire u from a to b slack 1;wire v from c to b;"
                    + "couple m he a she b love 1;couple n he c she d love 1;");
            no(x, "the FARTHER one", x.pair(0), 8);
            ok(x, "the other one", x.pair(1), 0);
        });
        test("45: who has none then asks the next", () -> {
            BellPullHouse x = with("power 9;room a;room b;room c;room d;wire u from a to b slack 1;wire v from c to b;wire w from a to d slack 4;"
                    + "couple m he a she b love 1;couple n he c she d love 1;");
            ok(x, "the FARTHER one", x.pair(0), 1);
            ok(x, "the other one", x.pair(1), 0);
            x.rule(3, 4);
            no(x, "beyond POWER", x.pair(0), 8);
        });
        test("45: PARTED or not", () -> {
            BellPullHouse x = with(PAIR);
            x.divorce(0);
            ok(x, "pair", x.pair(0), 0);
        });
        test("45: six, each pushed on by the next", () -> {
            BellPullHouse x = with("power 99;room a;room b;room c;room d;room e;room f;room g;"
                    + "wire p from a to b;wire q from b to c;wire r from c to d;wire s from d to e;wire t from e to f;wire u from f to g;"
                    + "couple i he a she g love 1;couple j he b she f love 1;couple k he c she e love 1;"
                    + "couple l he d she d love 1;couple m he e she c love 1;couple n he f she b love 1;");
            int[] due = {0, 5, 4, 3, 2, 1};
            for (int c = 0; c < 6; c++) {
                ok(x, "pair(" + c + ")", x.pair(c), due[c]);
            }
            ok(x, "swapped", x.swapped(), 4);
        });
    }

    private static void swaps() {
        test("46: without COUPLES", () -> {
            BellPullHouse x = new BellPullHouse();
            ok(x, "swapped", x.swapped(), 0);
        });
        test("46: who has none is not swapped", () -> {
            BellPullHouse x = with(APART);
            ok(x, "swapped", x.swapped(), 0);
        });
        test("46: who has his own is not swapped", () -> {
            BellPullHouse x = with(PAIR);
            ok(x, "swapped", x.swapped(), 0);
        });
        test("46: one that has another's, who has none", () -> {
            BellPullHouse x = with("power 2;room a;room b;room c;room d;wire u from a to b slack 1;wire v from c to b;"
                    + "couple m he a she b love 1;couple n he c she d love 1;");
            ok(x, "swapped", x.swapped(), 1);
        });
        test("46: all six", () -> {
            BellPullHouse x = with("room a;room b;room c;room d;room e;room f;couple i he a she b love 1;couple j he b she c love 1;"
                    + "couple k he c she d love 1;couple l he d she e love 1;couple m he e she f love 1;couple n he f she a love 1;");
            ok(x, "swapped", x.swapped(), 6);
            ok(x, "the first", x.pair(0), 5);
            ok(x, "the last", x.pair(5), 4);
        });
    }

    // ---- 47 to 50

    private static void games() {
        test("47: 0 to 3 turns", () -> {
            BellPullHouse x = with(PAIR);
            for (int turns : new int[] {-1, 4, 5, LEAST, MOST}) {
                no(x, "game(" + turns + ")", x.game(turns), 5);
            }
        });
        test("47: 0 turns: those that are RUNG", () -> {
            BellPullHouse x = with(THREE);
            ok(x, "game", x.game(0), 2);
            x.divorce(0);
            ok(x, "PARTED or not", x.game(0), 2);
            x.rule(3, 6);
            ok(x, "POWER 6", x.game(0), 3);
        });
        test("47: the mouse first, then the wireman, then the mouse", () -> {
            BellPullHouse x = with(PAIR);
            ok(x, "0", x.game(0), 1);
            ok(x, "1", x.game(1), 0);
            ok(x, "2", x.game(2), 1);
            ok(x, "3", x.game(3), 0);
        });
        test("47: SLACK counts as long as none is mended", () -> {
            BellPullHouse x = with("power 1;room a;room b;room c;room d;wire u from a to b slack 3;wire v from c to d;"
                    + "couple m he a she b love 1;couple n he c she d love 1;");
            ok(x, "0", x.game(0), 1);
            ok(x, "1", x.game(1), 0);
            ok(x, "moveOf", x.moveOf(1), 1);
            ok(x, "2", x.game(2), 1);
            ok(x, "3", x.game(3), 0);
            x.stretch(0, 1);
            ok(x, "0, SLACK 1", x.game(0), 1);
            ok(x, "1, SLACK 1", x.game(1), 0);
        });
        test("47: SLACK 1 is mended, a cut WIRE is mended, never both in a turn", () -> {
            BellPullHouse x = with("power 1;room a;room b;room c;room d;wire u from a to b slack 1;wire v from c to d;wire w from c to d;"
                    + "couple m he a she b love 1;couple n he c she d love 1;");
            ok(x, "0", x.game(0), 1);
            ok(x, "1", x.game(1), 1);
            ok(x, "2", x.game(2), 2);
            ok(x, "3", x.game(3), 1);
            x.cut(2);
            ok(x, "2, one cut", x.game(2), 1);
            ok(x, "3, one cut", x.game(3), 0);
        });
        test("47: without ROOMS", () -> {
            BellPullHouse x = new BellPullHouse();
            for (int turns = 0; turns < 4; turns++) {
                ok(x, "game", x.game(turns), 0);
            }
        });
        test("47: without WIRES both do nothing", () -> {
            BellPullHouse x = with("room a;room b;couple m he a she b love 1;couple n he a she a love 1;");
            for (int turns = 0; turns < 4; turns++) {
                ok(x, "game", x.game(turns), 1);
            }
        });
        test("47: the wireman mends one that was cut ahead", () -> {
            BellPullHouse x = allCut(PAIR);
            ok(x, "0", x.game(0), 0);
            ok(x, "1", x.game(1), 0);
            ok(x, "2", x.game(2), 1);
            ok(x, "3", x.game(3), 0);
        });
        test("47: the wireman mends one that has SLACK", () -> {
            BellPullHouse x = with("power 1;room a;room b;room c;wire u from a to b slack 1;wire v from a to b slack 9;couple m he a she b love 1;");
            ok(x, "1", x.game(1), 0);
            ok(x, "2", x.game(2), 1);
            ok(x, "3", x.game(3), 0);
        });
        test("47: ten WIRES, one COUPLE", () -> {
            BellPullHouse x = with(TEN);
            for (int turns = 0; turns < 4; turns++) {
                ok(x, "game", x.game(turns), 1);
            }
        });
        test("47: two WIRES: the mouse needs two turns, that the wireman undoes", () -> {
            BellPullHouse x = with("room a;room b;wire u from a to b;wire v from a to b;couple m he a she b love 1;");
            for (int turns = 0; turns < 4; turns++) {
                ok(x, "game", x.game(turns), 1);
            }
            x.cut(1);
            ok(x, "1", x.game(1), 0);
            ok(x, "2", x.game(2), 1);
            ok(x, "3", x.game(3), 0);
        });
        test("47: only asked", () -> {
            BellPullHouse x = with(PAIR);
            x.game(3);
            x.moveOf(3);
            ok(x, "whole", x.many(7), 1);
        });
    }

    private static void moves() {
        test("48: 1 to 3 turns", () -> {
            BellPullHouse x = with(PAIR);
            for (int turns : new int[] {0, -1, 4, 5, LEAST, MOST}) {
                no(x, "moveOf(" + turns + ")", x.moveOf(turns), 5);
            }
            for (int turns = 1; turns < 4; turns++) {
                ok(x, "moveOf(" + turns + ")", x.moveOf(turns), 0);
            }
        });
        test("48: none: no WIRES", () -> {
            BellPullHouse x = with(APART);
            for (int turns = 1; turns < 4; turns++) {
                no(x, "moveOf", x.moveOf(turns), 8);
            }
        });
        test("48: none: no whole WIRES", () -> {
            BellPullHouse x = allCut(TEN);
            for (int turns = 1; turns < 4; turns++) {
                no(x, "moveOf", x.moveOf(turns), 8);
            }
        });
        test("48: 5 goes ahead of 8", () -> {
            BellPullHouse x = new BellPullHouse();
            no(x, "0", x.moveOf(0), 5);
            no(x, "4", x.moveOf(4), 5);
            no(x, "1", x.moveOf(1), 8);
        });
        test("48: nothing comes last: a WIRE that changes nothing", () -> {
            BellPullHouse x = with("room a;room b;wire u from a to b;wire v from a to b;");
            for (int turns = 1; turns < 4; turns++) {
                ok(x, "moveOf", x.moveOf(turns), 0);
            }
            x.cut(0);
            for (int turns = 1; turns < 4; turns++) {
                ok(x, "moveOf", x.moveOf(turns), 1);
            }
        });
        test("48: of all that are as good the first", () -> {
            BellPullHouse x = with(CHAIN);
            ok(x, "moveOf", x.moveOf(1), 0);
            x.move(0, 0, 3);
            ok(x, "moveOf", x.moveOf(1), 3);
            x.move(0, 1, 6);
            ok(x, "moveOf", x.moveOf(1), 3);
        });
        test("48: the tenth", () -> {
            BellPullHouse x = with(TEN);
            for (int w = 0; w < 9; w++) {
                x.cut(w);
            }
            ok(x, "moveOf", x.moveOf(1), 9);
        });
    }

    private static void lasting() {
        test("49: no such COUPLE", () -> {
            BellPullHouse x = with(THREE);
            for (int c : NO_COUPLES) {
                no(x, "lasts(" + c + ")", x.lasts(c), 2);
            }
        });
        test("49: ODDS 0: 1 by 1, or 0 by 1", () -> {
            BellPullHouse x = with(THREE);
            x.rule(4, 0);
            is(x, "RUNG", x.lasts(0), 1, 1);
            is(x, "at just POWER", x.lasts(1), 1, 1);
            is(x, "not RUNG", x.lasts(2), 0, 1);
        });
        test("49: ODDS 16: by no WIRE", () -> {
            BellPullHouse x = with("odds 16;room a;room b;wire u from a to b;couple m he a she b love 1;couple n he b she b love 1;");
            is(x, "by a WIRE", x.lasts(0), 0, 1);
            is(x, "in the same ROOM", x.lasts(1), 1, 1);
        });
        test("49: without WIRES", () -> {
            BellPullHouse x = with("odds 7;room a;room b;couple m he a she b love 1;couple n he b she b love 1;");
            is(x, "another ROOM", x.lasts(0), 0, 1);
            is(x, "the same ROOM", x.lasts(1), 1, 1);
        });
        test("49: no common divisor", () -> {
            BellPullHouse x = with(PAIR);
            int[] top = {1, 15, 7, 13, 3, 11, 5, 9, 1, 7, 3, 5, 1, 3, 1, 1, 0};
            int[] bottom = {1, 16, 8, 16, 4, 16, 8, 16, 2, 16, 8, 16, 4, 16, 8, 16, 1};
            for (int odds = 0; odds <= 16; odds++) {
                x.rule(4, odds);
                is(x, "ODDS " + odds, x.lasts(0), top[odds], bottom[odds]);
            }
        });
        test("49: ten WIRES: by 16 to the power of 10", () -> {
            BellPullHouse x = with(TEN);
            is(x, "ODDS 1", x.lasts(0), 1099511627775L, 1099511627776L);
            x.rule(4, 15);
            is(x, "ODDS 15", x.lasts(0), 522861237151L, 1099511627776L);
            x.rule(4, 16);
            is(x, "ODDS 16", x.lasts(0), 0, 1);
            x.rule(4, 8);
            is(x, "ODDS 8", x.lasts(0), 1023, 1024);
        });
        test("49: cut WIRES do not count", () -> {
            BellPullHouse x = with(TEN);
            for (int w = 1; w < 10; w++) {
                x.cut(w);
            }
            is(x, "one whole", x.lasts(0), 15, 16);
            x.cut(0);
            is(x, "none whole", x.lasts(0), 0, 1);
        });
        test("49: seven WIRES in a row, at just POWER, 1 beyond", () -> {
            BellPullHouse x = with(CHAIN);
            is(x, "70", x.lasts(0), 170859375, 268435456);
            x.rule(3, 69);
            is(x, "69", x.lasts(0), 0, 1);
        });
        test("49: PARTED or not", () -> {
            BellPullHouse x = with(PAIR);
            x.divorce(0);
            is(x, "lasts", x.lasts(0), 7, 8);
        });
        test("3, 4: the FRACTION told latest stays behind calls that tell none", () -> {
            BellPullHouse x = with(PAIR);
            x.lasts(0);
            no(x, "lasts", x.lasts(1), 2);
            no(x, "faith", x.faith(0), 8);
            no(x, "mean", x.mean(0, 1), 8);
            x.many(0);
            due("top", x.top(), 7);
            due("bottom", x.bottom(), 8);
        });
    }

    private static void faithful() {
        test("50: no such COUPLE", () -> {
            BellPullHouse x = with(THREE);
            x.day(1);
            for (int c : NO_COUPLES) {
                no(x, "faith(" + c + ")", x.faith(c), 2);
            }
        });
        test("50: there were no DAYS", () -> {
            BellPullHouse x = with(THREE);
            no(x, "faith", x.faith(0), 8);
            due("top", x.top(), 0);
            due("bottom", x.bottom(), 1);
        });
        test("50: 2 goes ahead of 8", () -> {
            BellPullHouse x = with(THREE);
            no(x, "faith", x.faith(3), 2);
            no(x, "faith", x.faith(-1), 2);
        });
        test("50: on none: 0 by 1", () -> {
            BellPullHouse x = with(APART);
            x.day(3);
            is(x, "faith", x.faith(0), 0, 1);
        });
        test("50: on all: 1 by 1, of 1 and of 9,999", () -> {
            BellPullHouse x = with(TOGETHER);
            x.day(1);
            is(x, "1", x.faith(0), 1, 1);
            BellPullHouse y = onDay9999(TOGETHER);
            is(y, "9,999", y.faith(0), 1, 1);
        });
        test("50: of all DAYS so far, those behind the parting, too", () -> {
            BellPullHouse x = with(TOGETHER);
            x.day(2);
            x.divorce(0);
            x.day(1);
            is(x, "2 by 3", x.faith(0), 2, 3);
            x.day(1);
            is(x, "1 by 2", x.faith(0), 1, 2);
            x.day(99);
            is(x, "2 by 103", x.faith(0), 2, 103);
        });
        test("50: those of another one do not count", () -> {
            BellPullHouse x = with("room a;room b;couple m he b she a love 9;couple n he a she a love 9;");
            x.day(2);
            is(x, "faith", x.faith(0), 0, 1);
            is(x, "faith", x.faith(1), 1, 1);
        });
        test("50: there are no DAYS in a new HOUSE", () -> {
            BellPullHouse x = with(TOGETHER);
            x.day(2);
            x.house(0);
            no(x, "faith", x.faith(0), 2);
        });
    }
}
