/**
 * Promises 1 to 12: each sentence of the document that names a boundary of TRAYS, the tape or the
 * texts has a test of its own here, on objects of its own.
 */
public final class BoundaryTextTest {
    private static final int LEAST = Integer.MIN_VALUE;
    private static final int MOST = Integer.MAX_VALUE;
    private static final int[] NO_TRAYS = {-1, 4, 5, LEAST, MOST};
    private static final String[] KEYWORDS = {"power", "odds", "room", "wire", "from", "to", "slack", "couple", "he",
        "she", "love", "day", "damp", "dry", "mend", "cut", "any", "when", "rung", "parted", "loop", "end", "stop"};
    private static final String EIGHT = "room a;room b;room c;room d;room e;room f;room g;room h;";
    private static final String NAMED = "room a;room b;wire u from a to b;couple m he a she b love 1;";
    private static final String OLD = "power 7;odds 3;room a;room b;room c;wire u from a to b slack 4;"
            + "couple m he a she b love 5;";

    private static int tests = 0;
    private static int broken = 0;
    private static boolean holds = true;
    private static String sentence = "";

    public static void main(String[] args) {
        newObjects();
        statuses();
        trays();
        numbersInTrays();
        pours();
        tapes();
        lengthsOfTexts();
        takenHouses();
        takenYears();
        tokens();
        names();
        numbersInTexts();
        eachTokenOfHouses();
        eachTokenOfYears();
        faultsOfHouses();
        faultsOfYears();
        firstFaults();
        toldFaults();
        System.out.println(tests + " sentences, " + broken + " broken");
        if (broken != 0) {
            System.exit(1);
        }
    }

    // ---- what a test is made of

    private static void test(String words, Runnable body) {
        sentence = words;
        holds = true;
        body.run();
        tests++;
        if (!holds) {
            broken++;
        }
    }

    private static void due(String what, long got, long want) {
        if (got != want) {
            holds = false;
            System.out.println(sentence + ": " + what + " answered " + got + ", due is " + want);
        }
    }

    private static void ok(BellPullHouse x, String what, long got, long want) {
        due(what, got, want);
        due("status() of " + what, x.status(), 0);
    }

    private static void ok(BellPullHouse x, String what, boolean got) {
        ok(x, what, got ? 1 : 0, 1);
    }

    private static void no(BellPullHouse x, String what, long got, int status) {
        due(what, got, -1);
        due("status() of " + what, x.status(), status);
    }

    private static void no(BellPullHouse x, String what, boolean got, int status) {
        no(x, what, got ? 1 : -1, status);
    }

    /** What fills the last twenty bytes is no TOKEN, so that a reader that goes too far is seen. */
    private static int feed(BellPullHouse x, String s) {
        int fed = 0;
        for (int i = 0; i < s.length(); i += 20) {
            int[] five = new int[5];
            for (int j = 0; j < 20; j++) {
                five[j / 4] = five[j / 4] << 8 | (i + j < s.length() ? s.charAt(i + j) & 255 : '~');
            }
            fed = x.feed(five[0], five[1], five[2], five[3], five[4]);
        }
        return fed;
    }

    private static int house(BellPullHouse x, String s) {
        feed(x, s);
        return x.house(s.length());
    }

    private static int years(BellPullHouse x, String s) {
        feed(x, s);
        return x.years(s.length());
    }

    private static BellPullHouse with(String s) {
        BellPullHouse x = new BellPullHouse();
        house(x, s);
        due("house() of " + s, x.status(), 0);
        return x;
    }

    private static void takes(String s, int couples) {
        BellPullHouse x = new BellPullHouse();
        ok(x, "house() of " + s, house(x, s), couples);
        due("fault(0)", x.fault(0), 0);
        due("fault(1)", x.fault(1), -1);
    }

    private static void faults(String s, int kind, int place) {
        BellPullHouse x = new BellPullHouse();
        no(x, "house() of " + s, house(x, s), 10);
        due("fault(0) of " + s, x.fault(0), kind);
        due("fault(1) of " + s, x.fault(1), place);
    }

    private static void takesYears(String s, int steps) {
        BellPullHouse x = with(NAMED);
        ok(x, "years() of " + s, years(x, s), steps);
        due("fault(0)", x.fault(0), 0);
        due("fault(1)", x.fault(1), -1);
    }

    private static void faultsYears(String s, int kind, int place) {
        BellPullHouse x = with(NAMED);
        no(x, "years() of " + s, years(x, s), 10);
        due("fault(0) of " + s, x.fault(0), kind);
        due("fault(1) of " + s, x.fault(1), place);
    }

    private static void isEmptyHouse(BellPullHouse x) {
        int[] many = {0, 0, 0, 8, 2, 0, 0, 0, 0, 0, 0};
        for (int i = 0; i < many.length; i++) {
            ok(x, "many(" + i + ")", x.many(i), many[i]);
        }
    }

    // ---- 1, 2

    private static void newObjects() {
        test("1: TRAYS are MISSING", () -> {
            BellPullHouse x = new BellPullHouse();
            for (int t = 0; t < 4; t++) {
                no(x, "read", x.read(t, 0), 3);
                no(x, "write", x.write(t, 0, 1), 3);
                no(x, "pour", x.pour(t, 0, t, 0, 0), 3);
                no(x, "copyLove", x.copyLove(t), 3);
            }
        });
        test("1: a HOUSE of no ROOMS (POWER 8, ODDS 2)", () -> isEmptyHouse(new BellPullHouse()));
        test("1: no ROOM, WIRE, COUPLE is there to be told", () -> {
            BellPullHouse x = new BellPullHouse();
            no(x, "wire", x.wire(0, 0), 2);
            no(x, "couple", x.couple(0, 0), 2);
            no(x, "far", x.far(0, 0), 2);
            no(x, "heard", x.heard(0), 2);
            no(x, "rings", x.rings(0), 2);
            no(x, "answers", x.answers(0), 2);
            no(x, "way", x.way(0, 0, 0), 2);
            no(x, "crossed", x.crossed(0), 2);
            no(x, "pair", x.pair(0), 2);
            no(x, "lasts", x.lasts(0), 2);
            no(x, "faith", x.faith(0), 2);
        });
        test("1: no YEARS", () -> {
            BellPullHouse x = new BellPullHouse();
            no(x, "live", x.live(0), 8);
            no(x, "mean", x.mean(0, 1), 8);
            no(x, "lived", x.lived(0), 8);
        });
        test("1: no MARKS", () -> {
            BellPullHouse x = new BellPullHouse();
            no(x, "back", x.back(), 8);
        });
        test("1: an empty tape", () -> {
            BellPullHouse x = new BellPullHouse();
            no(x, "house", x.house(1), 5);
            no(x, "years", x.years(1), 5);
            due("feed", x.feed(0, 0, 0, 0, 0), 20);
        });
        test("1: STATUS 0", () -> due("status", new BellPullHouse().status(), 0));
        test("1: the FRACTION 0 by 1", () -> {
            BellPullHouse x = new BellPullHouse();
            due("top", x.top(), 0);
            due("bottom", x.bottom(), 1);
        });
        test("1: whatever became of another object", () -> {
            BellPullHouse other = with(OLD);
            years(other, "any;");
            other.tray(0, 0, 1);
            other.mark();
            other.lasts(0);
            other.live(1);
            feed(other, "room");
            BellPullHouse x = new BellPullHouse();
            isEmptyHouse(x);
            no(x, "read", x.read(0, 0), 3);
            no(x, "live", x.live(0), 8);
            no(x, "lived", x.lived(0), 8);
            no(x, "back", x.back(), 8);
            no(x, "house", x.house(1), 5);
            due("bottom", x.bottom(), 1);
            due("fault", x.fault(0), -1);
        });
    }

    private static void statuses() {
        test("2: the latest call that has one; status(), fault(), feed(), top(), bottom() have none", () -> {
            BellPullHouse x = new BellPullHouse();
            x.back();
            due("status", x.status(), 8);
            due("status again", x.status(), 8);
            x.fault(0);
            x.fault(9);
            x.top();
            x.bottom();
            for (int i = 0; i < 46; i++) {
                x.feed(0, 0, 0, 0, 0);
            }
            due("status behind these", x.status(), 8);
            x.many(0);
            due("status of a call that is done", x.status(), 0);
            x.feed(0, 0, 0, 0, 0);
            due("status behind a feed() that tells NONE", x.status(), 0);
        });
    }

    // ---- 5, 6, 7, 8

    private static void trays() {
        test("TRAYS, 0 to 3", () -> {
            BellPullHouse x = new BellPullHouse();
            for (int t = 0; t < 4; t++) {
                ok(x, "tray", x.tray(t, 0, 1));
                ok(x, "write", x.write(t, 0, 5 + t));
            }
            for (int t = 0; t < 4; t++) {
                ok(x, "read", x.read(t, 0), 5 + t);
            }
        });
        test("5: no such TRAY", () -> {
            BellPullHouse x = new BellPullHouse();
            for (int t : NO_TRAYS) {
                no(x, "tray(" + t + ")", x.tray(t, 0, 1), 1);
            }
        });
        test("5: no such sort", () -> {
            BellPullHouse x = new BellPullHouse();
            for (int sort : NO_TRAYS) {
                no(x, "sort " + sort, x.tray(0, sort, 1), 1);
            }
            no(x, "read", x.read(0, 0), 3);
            for (int sort = 0; sort < 4; sort++) {
                ok(x, "sort " + sort, x.tray(0, sort, 1));
            }
        });
        test("5: at most 60", () -> {
            BellPullHouse x = new BellPullHouse();
            no(x, "61", x.tray(0, 3, 61), 5);
            no(x, "the most", x.tray(0, 3, MOST), 5);
            no(x, "read", x.read(0, 0), 3);
            ok(x, "60", x.tray(0, 3, 60));
            ok(x, "write", x.write(0, 59, 7));
            ok(x, "read", x.read(0, 59), 7);
            no(x, "write", x.write(0, 60, 7), 4);
            no(x, "read", x.read(0, 60), 4);
        });
        test("5: below 0", () -> {
            BellPullHouse x = new BellPullHouse();
            no(x, "-1", x.tray(0, 3, -1), 6);
            no(x, "the least", x.tray(0, 3, LEAST), 6);
            no(x, "read", x.read(0, 0), 3);
        });
        test("5: a row of no numbers", () -> {
            BellPullHouse x = new BellPullHouse();
            ok(x, "tray", x.tray(0, 3, 0));
            no(x, "read", x.read(0, 0), 4);
            no(x, "write", x.write(0, 0, 1), 4);
            ok(x, "pour", x.pour(0, 0, 0, 0, 0));
        });
        test("5: 1 goes ahead of 5 and 6", () -> {
            BellPullHouse x = new BellPullHouse();
            no(x, "tray", x.tray(4, 0, 61), 1);
            no(x, "tray", x.tray(-1, 0, -1), 1);
            no(x, "sort", x.tray(0, 4, 61), 1);
            no(x, "sort", x.tray(0, -1, -1), 1);
        });
        test("5: all 0, made again, too", () -> {
            BellPullHouse x = new BellPullHouse();
            x.tray(0, 0, 60);
            for (int i = 0; i < 60; i++) {
                due("read", x.read(0, i), 0);
                x.write(0, i, 9);
            }
            ok(x, "tray", x.tray(0, 3, 60));
            for (int i = 0; i < 60; i++) {
                due("read", x.read(0, i), 0);
            }
            ok(x, "write", x.write(0, 0, 1000));
            ok(x, "of the new sort", x.read(0, 0), 1000);
            ok(x, "shorter", x.tray(0, 3, 1));
            no(x, "read", x.read(0, 1), 4);
        });
    }

    private static void numbersInTrays() {
        long[][] widths = {
            {0, 127, 127}, {0, 128, -128}, {0, -128, -128}, {0, -129, 127}, {0, 255, -1}, {0, 256, 0},
            {0, Long.MAX_VALUE, -1}, {0, Long.MIN_VALUE, 0},
            {1, 32767, 32767}, {1, 32768, -32768}, {1, -32768, -32768}, {1, -32769, 32767}, {1, 65535, -1}, {1, 65536, 0},
            {2, 2147483647L, 2147483647L}, {2, 2147483648L, -2147483648L}, {2, -2147483648L, -2147483648L},
            {2, -2147483649L, 2147483647L}, {2, 4294967295L, -1}, {2, 4294967296L, 0},
            {3, 4294967296L, 4294967296L}, {3, Long.MAX_VALUE, Long.MAX_VALUE}, {3, Long.MIN_VALUE, Long.MIN_VALUE}};
        for (long[] w : widths) {
            test("what is written is cut to " + (8 << w[0]) + " bits with sign: " + w[1], () -> {
                BellPullHouse x = new BellPullHouse();
                x.tray(0, (int) w[0], 3);
                ok(x, "write", x.write(0, 1, w[1]));
                ok(x, "read", x.read(0, 1), w[2]);
                ok(x, "the one ahead", x.read(0, 0), 0);
                ok(x, "the one behind", x.read(0, 2), 0);
            });
        }
        test("6, 7: no such TRAY", () -> {
            BellPullHouse x = new BellPullHouse();
            for (int t : NO_TRAYS) {
                no(x, "write", x.write(t, 0, 1), 1);
                no(x, "read", x.read(t, 0), 1);
            }
        });
        test("6, 7: a place that the TRAY has not", () -> {
            BellPullHouse x = new BellPullHouse();
            x.tray(0, 3, 4);
            for (int place : new int[] {-1, 4, 5, 59, 60, LEAST, MOST}) {
                no(x, "write", x.write(0, place, 1), 4);
                no(x, "read", x.read(0, place), 4);
            }
            ok(x, "first", x.write(0, 0, 1));
            ok(x, "last", x.write(0, 3, 4));
            ok(x, "first", x.read(0, 0), 1);
            ok(x, "last", x.read(0, 3), 4);
        });
        test("6, 7: 1 goes ahead of 4, and 3", () -> {
            BellPullHouse x = new BellPullHouse();
            no(x, "write", x.write(4, -1, 1), 1);
            no(x, "read", x.read(-1, -1), 1);
            no(x, "write", x.write(3, -1, 1), 3);
            no(x, "read", x.read(3, MOST), 3);
        });
        test("7: STATUS tells NONE from -1", () -> {
            BellPullHouse x = new BellPullHouse();
            x.tray(0, 0, 1);
            x.write(0, 0, -1);
            ok(x, "-1", x.read(0, 0), -1);
            no(x, "NONE", x.read(0, 1), 4);
        });
    }

    private static BellPullHouse poured() {
        BellPullHouse x = new BellPullHouse();
        x.tray(0, 2, 5);
        for (int i = 0; i < 5; i++) {
            x.write(0, i, i + 1);
        }
        x.tray(1, 2, 3);
        x.tray(2, 3, 5);
        return x;
    }

    private static void holdsRow(BellPullHouse x, int tray, long... row) {
        for (int i = 0; i < row.length; i++) {
            ok(x, "read(" + tray + ", " + i + ")", x.read(tray, i), row[i]);
        }
    }

    private static void pours() {
        test("8: to a place behind in the same one, as they were", () -> {
            BellPullHouse x = poured();
            ok(x, "pour", x.pour(0, 0, 0, 1, 4));
            holdsRow(x, 0, 1, 1, 2, 3, 4);
        });
        test("8: to a place ahead in the same one, as they were", () -> {
            BellPullHouse x = poured();
            ok(x, "pour", x.pour(0, 2, 0, 0, 3));
            holdsRow(x, 0, 3, 4, 5, 4, 5);
        });
        test("8: all, to another one that they fill", () -> {
            BellPullHouse x = poured();
            ok(x, "pour", x.pour(0, 2, 1, 0, 3));
            holdsRow(x, 1, 3, 4, 5);
            holdsRow(x, 0, 1, 2, 3, 4, 5);
        });
        test("8: sixty", () -> {
            BellPullHouse x = new BellPullHouse();
            x.tray(0, 3, 60);
            x.tray(3, 3, 60);
            x.write(0, 0, 8);
            x.write(0, 59, 9);
            ok(x, "pour", x.pour(0, 0, 3, 0, 60));
            ok(x, "first", x.read(3, 0), 8);
            ok(x, "last", x.read(3, 59), 9);
            no(x, "one more", x.pour(0, 0, 3, 0, 61), 4);
        });
        test("8: none", () -> {
            BellPullHouse x = poured();
            ok(x, "pour", x.pour(0, 0, 1, 0, 0));
            holdsRow(x, 1, 0, 0, 0);
        });
        test("8: 1 is asked first", () -> {
            BellPullHouse x = poured();
            for (int t : NO_TRAYS) {
                no(x, "from " + t, x.pour(t, -1, 3, -1, -1), 1);
                no(x, "to " + t, x.pour(3, -1, t, -1, -1), 1);
            }
        });
        test("8: 3 (either) is asked next", () -> {
            BellPullHouse x = poured();
            no(x, "from", x.pour(3, -1, 0, -1, -1), 3);
            no(x, "to", x.pour(0, -1, 3, -1, -1), 3);
            no(x, "both", x.pour(3, 0, 3, 0, 0), 3);
        });
        test("8: 11 is asked next", () -> {
            BellPullHouse x = poured();
            no(x, "unlike, below 0, no place", x.pour(0, -1, 2, -1, -1), 11);
            no(x, "unlike", x.pour(2, 0, 0, 0, 1), 11);
            no(x, "unlike, none", x.pour(2, 0, 0, 0, 0), 11);
            x.tray(3, 0, 5);
            no(x, "unlike", x.pour(0, 0, 3, 0, 1), 11);
        });
        test("8: 6 is asked next", () -> {
            BellPullHouse x = poured();
            no(x, "below 0", x.pour(0, 0, 1, 0, -1), 6);
            no(x, "below 0, no place", x.pour(0, -1, 1, 9, LEAST), 6);
        });
        test("8: 4 is asked last", () -> {
            BellPullHouse x = poured();
            no(x, "too few there", x.pour(0, 0, 1, 1, 3), 4);
            no(x, "too few here", x.pour(0, 3, 1, 0, 3), 4);
            no(x, "place -1", x.pour(0, -1, 1, 0, 1), 4);
            no(x, "to place -1", x.pour(0, 0, 1, -1, 1), 4);
            no(x, "place 5", x.pour(0, 5, 1, 0, 1), 4);
            no(x, "to place 3", x.pour(0, 0, 1, 3, 1), 4);
            holdsRow(x, 0, 1, 2, 3, 4, 5);
            holdsRow(x, 1, 0, 0, 0);
        });
        test("8: no place and number together wrap around", () -> {
            BellPullHouse x = poured();
            no(x, "from", x.pour(0, MOST, 0, 0, 1), 4);
            no(x, "to", x.pour(0, 0, 0, MOST, 1), 4);
            no(x, "many", x.pour(0, 1, 0, 1, MOST), 4);
            no(x, "from and many", x.pour(0, MOST, 0, MOST, MOST), 4);
            no(x, "least", x.pour(0, LEAST, 0, LEAST, MOST), 4);
            holdsRow(x, 0, 1, 2, 3, 4, 5);
        });
    }

    // ---- 9

    private static void tapes() {
        test("9: twenty bytes, the highest of each int first", () -> {
            BellPullHouse x = new BellPullHouse();
            // "room aaaa;  power 9;" and, all ones, five times 255, which is no TOKEN.
            due("feed", x.feed(0x726f6f6d, 0x20616161, 0x613b2020, 0x706f7765, 0x7220393b), 20);
            due("feed", x.feed(-1, -1, -1, -1, -1), 40);
            no(x, "house", x.house(40), 10);
            due("fault(0)", x.fault(0), 1);
            due("fault(1)", x.fault(1), 20);
            x.feed(0x726f6f6d, 0x20616161, 0x613b2020, 0x706f7765, 0x7220393b);
            ok(x, "house", x.house(20), 0);
            ok(x, "ROOMS", x.many(0), 1);
            ok(x, "POWER", x.many(3), 9);
        });
        test("9: how many it has, 900 at most", () -> {
            BellPullHouse x = new BellPullHouse();
            for (int i = 1; i <= 45; i++) {
                due("feed", x.feed(0x20202020, 0x20202020, 0x20202020, 0x20202020, 0x20202020), 20 * i);
            }
            due("the 46th", x.feed(0, 0, 0, 0, 0), -1);
            due("the 47th", x.feed(0, 0, 0, 0, 0), -1);
            ok(x, "what is there stays", x.house(900), 0);
            due("there is room again", x.feed(0, 0, 0, 0, 0), 20);
        });
    }

    // ---- 10, 11

    private static void lengthsOfTexts() {
        test("10: the first n bytes; 5 of more than there are, of fewer than 0", () -> {
            BellPullHouse x = new BellPullHouse();
            feed(x, "room a; room b;     ");
            for (int n : new int[] {-1, 21, 40, 900, 901, LEAST, MOST}) {
                no(x, "house(" + n + ")", x.house(n), 5);
            }
            ok(x, "all of them", x.house(20), 0);
            ok(x, "ROOMS", x.many(0), 2);
        });
        test("10: the tape is empty then, bytes behind the n ones, too", () -> {
            BellPullHouse x = new BellPullHouse();
            feed(x, "room a; room b;     ");
            ok(x, "house", x.house(7), 0);
            ok(x, "ROOMS", x.many(0), 1);
            no(x, "house", x.house(1), 5);
            due("feed", x.feed(0, 0, 0, 0, 0), 20);
        });
        test("10: the tape is empty with 10, too", () -> {
            BellPullHouse x = new BellPullHouse();
            feed(x, "room");
            no(x, "house", x.house(4), 10);
            due("feed", x.feed(0, 0, 0, 0, 0), 20);
        });
        test("10: but for 5: the tape stays", () -> {
            BellPullHouse x = new BellPullHouse();
            feed(x, "room a;");
            no(x, "house", x.house(21), 5);
            due("feed", x.feed(0, 0, 0, 0, 0), 40);
            ok(x, "house", x.house(7), 0);
            ok(x, "ROOMS", x.many(0), 1);
        });
        test("11: 5 of more than there are, of fewer than 0", () -> {
            BellPullHouse x = new BellPullHouse();
            feed(x, "damp; dry;          ");
            for (int n : new int[] {-1, 21, 299, 300, 301, LEAST, MOST}) {
                no(x, "years(" + n + ")", x.years(n), 5);
            }
            ok(x, "all of them", x.years(20), 2);
        });
        test("11: 5: above 300, too", () -> {
            BellPullHouse x = new BellPullHouse();
            feed(x, "damp;" + " ".repeat(295) + "dry;");
            no(x, "years(301)", x.years(301), 5);
            no(x, "years(320)", x.years(320), 5);
            due("the tape stays", x.feed(0, 0, 0, 0, 0), 340);
            ok(x, "years(300)", x.years(300), 1);
            due("it is empty then", x.feed(0, 0, 0, 0, 0), 20);
        });
        test("11: the tape is empty with 10, too", () -> {
            BellPullHouse x = new BellPullHouse();
            feed(x, "damp");
            no(x, "years", x.years(4), 10);
            due("feed", x.feed(0, 0, 0, 0, 0), 20);
        });
        test("a HOUSE is a TEXT of at most 900 bytes", () -> {
            StringBuilder s = new StringBuilder(EIGHT);
            while (s.length() < 890) {
                s.append(' ');
            }
            takes(s + "  power 5;", 0);
            faults(s + "  power 5 ", 2, 900);
            faults(s + "  power  ;", 2, 899);
        });
        test("10: a text of no bytes is a HOUSE of no ROOMS", () -> {
            BellPullHouse x = with(OLD);
            ok(x, "house", x.house(0), 0);
            isEmptyHouse(x);
            due("fault(0)", x.fault(0), 0);
            due("fault(1)", x.fault(1), -1);
        });
        test("11: a text of no bytes are YEARS of no STEPS", () -> {
            BellPullHouse x = with(OLD);
            years(x, "damp;");
            ok(x, "years", x.years(0), 0);
            ok(x, "live", x.live(0), 0);
            ok(x, "it stays dry", x.many(6), 0);
        });
    }

    private static void takenHouses() {
        test("a HOUSE that is taken is there in place of that ahead", () -> {
            BellPullHouse x = with(OLD);
            ok(x, "house", house(x, "room q;"), 0);
            int[] many = {1, 0, 0, 8, 2, 0, 0, 0, 0, 0, 0};
            for (int i = 0; i < many.length; i++) {
                ok(x, "many(" + i + ")", x.many(i), many[i]);
            }
            no(x, "the WIRE ahead", x.wire(0, 0), 2);
            no(x, "the COUPLE ahead", x.couple(0, 0), 2);
            ok(x, "its ROOM's NAME is free", house(x, "room a;"), 0);
        });
        test("it is DAY 0, dry, all COUPLES HOLD; there are no YEARS", () -> {
            BellPullHouse x = with(OLD);
            x.day(9);
            x.damp(true);
            x.divorce(0);
            x.cut(0);
            x.rule(3, 50);
            years(x, "any;");
            ok(x, "house", house(x, OLD), 1);
            int[] many = {3, 1, 1, 7, 3, 0, 0, 1, 1, 1, 5};
            for (int i = 0; i < many.length; i++) {
                ok(x, "many(" + i + ")", x.many(i), many[i]);
            }
            ok(x, "DAYS she answered him", x.couple(0, 5), 0);
            ok(x, "DAYS she answered another one", x.couple(0, 6), 0);
            ok(x, "far", x.far(0, 1), 5);
            no(x, "live", x.live(0), 8);
        });
        test("it is DAY 0, dry, all COUPLES HOLD, on no DAYS answered: behind all that looks ahead, too", () -> {
            BellPullHouse x = with("room a;room b;couple m he a she a love 9;couple n he b she a love 9;");
            x.damp(true);
            years(x, "damp;day 3;");
            x.day(2);
            x.loveIn(0, 30);
            x.partsIn(1);
            x.silentIn(0);
            x.holdIn(300);
            x.mean(0, 3);
            ok(x, "house", house(x, "room a;room b;couple m he a she b love 9;"), 1);
            int[] many = {2, 0, 1, 8, 2, 0, 0, 0, 1, 0, 9};
            for (int i = 0; i < many.length; i++) {
                ok(x, "many(" + i + ")", x.many(i), many[i]);
            }
            x.loveIn(0, 30);
            ok(x, "house", house(x, "room a;couple m he a she a love 9;couple n he a she a love 2;"), 2);
            for (int c = 0; c < 2; c++) {
                ok(x, "DAYS she answered him", x.couple(c, 5), 0);
                ok(x, "DAYS she answered another one", x.couple(c, 6), 0);
                ok(x, "HOLDS", x.couple(c, 3), 1);
            }
            ok(x, "RUNG", x.many(9), 3);
            ok(x, "the DAY", x.many(5), 0);
        });
        test("FAR is measured anew in a HOUSE that is taken", () -> {
            BellPullHouse x = with("room a;room b;wire u from a to b slack 4;");
            ok(x, "far", x.far(0, 1), 5);
            x.holdIn(1);
            ok(x, "house", house(x, "room a;room b;room c;wire u from b to c;"), 0);
            no(x, "far", x.far(0, 1), 8);
            ok(x, "far", x.far(1, 2), 1);
            x.holdIn(1);
            ok(x, "house without WIRES", house(x, "room a;room b;room c;"), 0);
            no(x, "far", x.far(1, 2), 8);
            ok(x, "parts", x.parts(), 3);
        });
        test("10: the old one stays", () -> {
            BellPullHouse x = with(OLD);
            x.day(2);
            x.damp(true);
            years(x, "damp;");
            no(x, "house", house(x, "power 1;odds 1;room q;room r;room s;room t;wire u"), 10);
            int[] many = {3, 1, 1, 7, 3, 2, 1, 1, 1, 1, 7};
            for (int i = 0; i < many.length; i++) {
                ok(x, "many(" + i + ")", x.many(i), many[i]);
            }
            ok(x, "its YEARS", x.live(0), 1);
            ok(x, "its NAMES", years(x, "cut u; when rung m; end;"), 2);
            no(x, "not those of the other one", years(x, "cut w;"), 10);
        });
        test("how many COUPLES: 0 to 6", () -> {
            StringBuilder s = new StringBuilder("room a;");
            takes(s.toString(), 0);
            for (int i = 1; i <= 6; i++) {
                s.append("couple c").append((char) ('a' + i)).append(" he a she a love ").append(i).append(';');
                takes(s.toString(), i);
            }
        });
        test("in which ROOM HE is, in which SHE is (perhaps the same)", () -> {
            BellPullHouse x = with("room a;room b;couple m he b she b love 9;");
            ok(x, "he", x.couple(0, 0), 1);
            ok(x, "she", x.couple(0, 1), 1);
            ok(x, "it is RUNG", x.couple(0, 4), 1);
        });
        test("all are numbered as they stand", () -> {
            BellPullHouse x = with("room b;room a;couple n he a she b love 2;wire w from a to b slack 1;room c;"
                    + "wire v from c to a slack 2;couple m he c she c love 3;");
            ok(x, "wire", x.wire(0, 0), 1);
            ok(x, "wire", x.wire(1, 0), 2);
            ok(x, "wire", x.wire(1, 1), 1);
            ok(x, "wire", x.wire(1, 2), 2);
            ok(x, "couple", x.couple(0, 2), 2);
            ok(x, "couple", x.couple(1, 0), 2);
        });
    }

    private static void takenYears() {
        test("11: the old YEARS stay with 10, and with 5", () -> {
            BellPullHouse x = with(NAMED);
            years(x, "damp; damp;");
            no(x, "years", years(x, "cut u; cut"), 10);
            no(x, "years", x.years(1), 5);
            ok(x, "live", x.live(0), 2);
            ok(x, "damp", x.many(6), 1);
            ok(x, "u is whole", x.wire(0, 3), 1);
        });
        test("11: new YEARS are there in place of those ahead", () -> {
            BellPullHouse x = with(NAMED);
            years(x, "damp; damp; loop 9; damp; end;");
            ok(x, "years", years(x, "cut u;"), 1);
            ok(x, "live", x.live(0), 1);
            ok(x, "it is dry", x.many(6), 0);
        });
        test("11: a HOUSE stays as it became", () -> {
            BellPullHouse x = with(NAMED);
            x.day(3);
            ok(x, "years", years(x, "cut u;"), 1);
            ok(x, "DAY", x.many(5), 3);
            ok(x, "LOVE", x.many(10), 4);
        });
        test("11: how many STEPS: 0 to 30; end is none", () -> {
            for (int i = 0; i <= 30; i++) {
                takesYears("any;".repeat(i), i);
            }
            takesYears("loop 1;".repeat(3) + "any;".repeat(27) + "end;".repeat(3), 30);
            takesYears("loop 1;end;".repeat(10) + "loop 1;loop 1;loop 1;end;end;end;".repeat(5), 25);
        });
    }

    // ---- TOKENS

    private static void tokens() {
        test("between them blanks (10, 32), no other byte is one", () -> {
            for (int b = 0; b < 256; b++) {
                char c = (char) b;
                boolean isBlank = b == 10 || b == 32;
                boolean begins = c >= 'a' && c <= 'z' || c >= '0' && c <= '9' || ";<>=".indexOf(c) >= 0;
                if (isBlank) {
                    takes(c + "room" + c + c + "a" + c + ";" + c, 0);
                } else {
                    faults(String.valueOf(c), begins ? 2 : 1, 0);
                    if (!begins) {
                        faults("room a" + c + ";", 1, 6);
                        faultsYears("day 1;" + c, 1, 6);
                    }
                }
            }
        });
        test("a text of blanks alone", () -> {
            takes(" \n ", 0);
            takes(" ".repeat(900), 0);
            takesYears("\n".repeat(300), 0);
        });
        test("TOKENS, as long as they go", () -> {
            takes("room roomroom;room pow;room er;room ends;room e;room en;room too;room slac;", 0);
            faults("powe r 5;", 2, 0);
            faults("power 5 0;", 2, 8);
            faults("roomroom a;", 2, 0);
            faults("room a b;", 2, 7);
            faults("room a1;", 2, 6);
            faultsYears("dayday 1;", 2, 0);
            faultsYears("da y 1;", 2, 0);
        });
        test("no more than n bytes are of the text", () -> {
            BellPullHouse x = new BellPullHouse();
            feed(x, "power 99;");
            no(x, "house(8): the sign is lacking", x.house(8), 10);
            due("fault(0)", x.fault(0), 2);
            due("fault(1)", x.fault(1), 8);
            feed(x, "power 99;");
            no(x, "house(7): power 9, the sign is lacking", x.house(7), 10);
            due("fault(1)", x.fault(1), 7);
            feed(x, "power 9; room room;");
            ok(x, "house(8)", x.house(8), 0);
            ok(x, "POWER", x.many(3), 9);
        });
        test("a TOKEN ends where the text ends", () -> {
            BellPullHouse x = new BellPullHouse();
            feed(x, "room a;rooms");
            no(x, "house(11)", x.house(11), 10);
            due("fault(0)", x.fault(0), 2);
            due("the end", x.fault(1), 11);
            feed(x, "room a;rooms");
            no(x, "house(12)", x.house(12), 10);
            due("no such PART", x.fault(1), 7);
            feed(x, "power 12345");
            no(x, "house(10): four digits", x.house(10), 10);
            due("fault(0)", x.fault(0), 4);
            feed(x, "power 12345");
            no(x, "house(11): five", x.house(11), 10);
            due("fault(0)", x.fault(0), 1);
        });
    }

    private static void names() {
        test("NAME: a WORD of 1 to 8 letters", () -> {
            takes("room a;room zzzzzzzz;wire abcdefgh from zzzzzzzz to a;couple b he a she zzzzzzzz love 1;", 1);
            BellPullHouse x = with("room aaaaaaaa;room aaaaaaab;room aaaaaaa;wire w from aaaaaaab to aaaaaaa;");
            ok(x, "the last letter tells", x.wire(0, 0), 1);
            ok(x, "and how many there are", x.wire(0, 1), 2);
        });
        test("a WORD of 9 letters and more where a NAME must stand: 2", () -> {
            for (String nine : new String[] {"abcdefghi", "a".repeat(9), "a".repeat(40), "powerpower", "aaaaaaaaa"}) {
                faults("room " + nine + ";", 2, 5);
                faults("room a;room b;wire " + nine + " from a to b;", 2, 19);
                faults("room a;room b;wire w from " + nine + " to b;", 2, 26);
                faults("room a;room b;wire w from a to " + nine + ";", 2, 31);
                faults("room a;couple " + nine + " he a she a love 1;", 2, 14);
                faults("room a;couple c he " + nine + " she a love 1;", 2, 19);
                faults("room a;couple c he a she " + nine + " love 1;", 2, 25);
                faultsYears("mend " + nine + ";", 2, 5);
                faultsYears("cut " + nine + ";", 2, 4);
                faultsYears("when rung " + nine + ";", 2, 10);
                faultsYears("when love " + nine + " < 1;", 2, 10);
                faultsYears("when parted " + nine + ";", 2, 12);
            }
            faults("room " + "a".repeat(895), 2, 5);
            faults("a".repeat(900), 2, 0);
        });
        test("a NAME that is there by its first eight letters alone is none", () -> {
            faults("room aaaaaaaa;room aaaaaaaaa;", 2, 19);
            faults("room aaaaaaaa;room b;wire w from aaaaaaaaa to b;", 2, 33);
        });
        test("that is none of power, odds, ..", () -> {
            for (String word : KEYWORDS) {
                faults("room " + word + ";", 2, 5);
                faults("room a;room b;wire " + word + " from a to b;", 2, 19);
                faults("room a;room b;wire w from " + word + " to b;", 2, 26);
                faults("room a;room b;wire w from a to " + word + ";", 2, 31);
                faults("room a;couple " + word + " he a she a love 1;", 2, 14);
                faultsYears("cut " + word + ";", 2, 4);
                faultsYears("when rung " + word + ";", 2, 10);
            }
        });
        test("a WORD that is such a one but for a letter is a NAME", () -> {
            for (String word : KEYWORDS) {
                takes("room " + word + "x;room x" + word + ";room " + word.substring(1) + "q;", 0);
                takes("room " + word.substring(0, word.length() - 1) + "z;", 0);
            }
        });
        test("one NAME is of one thing alone: 3", () -> {
            faults(NAMED + "room a;", 3, NAMED.length() + 5);
            faults(NAMED + "room b;", 3, NAMED.length() + 5);
            faults(NAMED + "room u;", 3, NAMED.length() + 5);
            faults(NAMED + "room m;", 3, NAMED.length() + 5);
            faults(NAMED + "wire b from a to b;", 3, NAMED.length() + 5);
            faults(NAMED + "wire u from a to b;", 3, NAMED.length() + 5);
            faults(NAMED + "wire m from a to b;", 3, NAMED.length() + 5);
            faults(NAMED + "couple a he a she b love 1;", 3, NAMED.length() + 7);
            faults(NAMED + "couple u he a she b love 1;", 3, NAMED.length() + 7);
            faults(NAMED + "couple m he a she b love 1;", 3, NAMED.length() + 7);
        });
        test("what a PART names must be told ahead: 3", () -> {
            faults("wire w from a to b;room a;room b;", 3, 12);
            faults("room a;wire w from a to b;room b;", 3, 24);
            faults("couple c he a she a love 1;room a;", 3, 12);
            faults("room a;couple c he a she b love 1;room b;", 3, 25);
            faults("room a;wire w from a to w;", 3, 24);
            faults("room a;wire w from w to a;", 3, 19);
            faults("room a;couple c he c she a love 1;", 3, 19);
            faults("room a;couple c he a she c love 1;", 3, 25);
            faults(NAMED + "wire w from u to a;", 3, NAMED.length() + 12);
            faults(NAMED + "wire w from a to m;", 3, NAMED.length() + 17);
        });
    }

    private static void numbersInTexts() {
        test("NUMBERS: 1 to 4 digits", () -> {
            takes("power 9;odds 9;", 0);
            takes("power 09;odds 09;", 0);
            takes("power 009;odds 009;", 0);
            takes("power 0009;odds 0000;", 0);
            faults("power 00009;", 1, 6);
            faults("odds 00000;", 1, 5);
        });
        test("a NUMBER of 5 digits and more: 1, at its first", () -> {
            faults("power 12345;", 1, 6);
            faults("power " + "9".repeat(894), 1, 6);
            faults("power 4294967304;", 1, 6);
            faults("9".repeat(900), 1, 0);
            faults("12345", 1, 0);
            faultsYears("day 00001;", 1, 4);
            faultsYears("0".repeat(300), 1, 0);
        });
        test("POWER (1 to 99)", () -> edges("power ", ";", 1, 99));
        test("ODDS (0 to 16)", () -> edges("odds ", ";", 0, 16));
        test("SLACK (0 to 9)", () -> edges("room a;room b;wire w from a to b slack ", ";", 0, 9));
        test("LOVE (1 to 9)", () -> edges("room a;couple c he a she a love ", ";", 1, 9));
        test("8 without, 2 without, 0 without", () -> {
            BellPullHouse x = with("room a;room b;wire w from a to b;");
            ok(x, "POWER", x.many(3), 8);
            ok(x, "ODDS", x.many(4), 2);
            ok(x, "SLACK", x.wire(0, 2), 0);
            BellPullHouse y = with("odds 0;");
            ok(y, "POWER", y.many(3), 8);
            ok(y, "ODDS", y.many(4), 0);
            BellPullHouse z = with("power 1;");
            ok(z, "POWER", z.many(3), 1);
            ok(z, "ODDS", z.many(4), 2);
        });
        test("day (1 to 40)", () -> yearsEdges("day ", ";", 1, 40));
        test("loop n (1 to 99)", () -> yearsEdges("loop ", ";end;", 1, 99));
        test("love against 0 to 9", () -> {
            yearsEdges("when love m < ", ";end;", 0, 9);
            yearsEdges("when love m > ", ";end;", 0, 9);
            yearsEdges("when love m = ", ";end;", 0, 9);
        });
    }

    /** Each NUMBER from low to high can be; none else of four digits can. */
    private static void edges(String ahead, String behind, int low, int high) {
        for (int n = 0; n <= 101; n++) {
            if (n < low || n > high) {
                faults(ahead + n + behind, 4, ahead.length());
            } else {
                BellPullHouse x = new BellPullHouse();
                house(x, ahead + n + behind);
                due("house() of " + ahead + n, x.status(), 0);
            }
        }
        faults(ahead + "9999" + behind, 4, ahead.length());
        faults(ahead + "1000" + behind, 4, ahead.length());
    }

    private static void yearsEdges(String ahead, String behind, int low, int high) {
        for (int n = 0; n <= 101; n++) {
            if (n < low || n > high) {
                faultsYears(ahead + n + behind, 4, ahead.length());
            } else {
                takesYears(ahead + n + behind, 1);
            }
        }
        faultsYears(ahead + "9999" + behind, 4, ahead.length());
    }

    // ---- each TOKEN of each PART, each STEP, put wrong

    /**
     * A TOKEN is told with its kind: = itself alone can stand, f a first WORD, n a new NAME, r a
     * ROOM, w a WIRE, c a COUPLE, d a NUMBER, q a sign that COMPARES, o one that can be left out.
     */
    private static final String[] PARTS = {"f:power d:5 =:;", "f:odds d:5 =:;", "f:room n:new =:;",
        "f:wire n:new =:from r:a =:to r:b =:;", "f:wire n:new =:from r:b =:to r:a o:slack d:3 =:;",
        "f:couple n:new =:he r:a =:she r:a =:love d:1 =:;"};
    private static final String[] STEPS = {"f:day d:3 =:;", "f:damp =:;", "f:dry =:;", "f:mend w:u =:;", "f:cut w:u =:;",
        "f:any =:;", "f:when f:rung c:m =:; f:end =:;", "f:when f:love c:m q:< d:0 =:; f:end =:;",
        "f:when f:love c:m q:> d:9 =:; f:end =:;", "f:when f:love c:m q:= d:9 =:; f:end =:;",
        "f:when f:parted c:m =:; f:end =:;", "f:loop d:2 =:; f:end =:;", "f:stop =:;"};

    private static void eachTokenOfHouses() {
        for (String part : PARTS) {
            test("FAULTS 1, 2, 3 at each TOKEN of " + part, () -> eachToken(NAMED, part, true));
        }
    }

    private static void eachTokenOfYears() {
        for (String step : STEPS) {
            test("FAULTS 1, 2, 3 at each TOKEN of " + step, () -> eachToken("", step, false));
        }
    }

    private static void eachToken(String head, String template, boolean ofHouse) {
        String ahead = head;
        for (String token : template.split(" ")) {
            char kind = token.charAt(0);
            String text = token.substring(2);
            wrongInstead(ahead, kind, text, ofHouse);
            if (!ahead.equals(head)) {
                fault(ahead, 2, ahead.length(), ofHouse);
                fault(ahead.trim(), 2, ahead.trim().length(), ofHouse);
            }
            ahead += text + " ";
        }
    }

    private static void wrongInstead(String ahead, char kind, String text, boolean ofHouse) {
        int place = ahead.length();
        fault(ahead + "! !", 1, place, ofHouse);
        fault(ahead + "12345 !", 1, place, ofHouse);
        fault(ahead + "abcdefghi !", 2, place, ofHouse);
        fault(ahead + (ofHouse ? "when !" : "from !"), 2, place, ofHouse);
        if (kind != 'd') {
            fault(ahead + "7 !", 2, place, ofHouse);
            fault(ahead + "0 !", 2, place, ofHouse);
        }
        if (kind != 'q') {
            fault(ahead + "= !", 2, place, ofHouse);
        }
        if (!text.equals(";") && kind != 'o') {
            fault(ahead + "; !", 2, place, ofHouse);
        }
        boolean isName = "rwc".indexOf(kind) >= 0;
        if (kind != 'n') {
            fault(ahead + "none !", isName ? 3 : 2, place, ofHouse);
        }
        for (int other = 0; other < 3; other++) {
            // a is a ROOM, u a WIRE, m a COUPLE.
            if (kind == 'n' || isName && "rwc".indexOf(kind) != other) {
                fault(ahead + "aum".charAt(other) + " !", 3, place, ofHouse);
            }
        }
    }

    private static void fault(String s, int kind, int place, boolean ofHouse) {
        if (ofHouse) {
            faults(s, kind, place);
        } else {
            faultsYears(s, kind, place);
        }
    }

    private static String wires(int many) {
        StringBuilder s = new StringBuilder(EIGHT);
        for (int i = 0; i < many; i++) {
            s.append("wire w").append((char) ('a' + i)).append(" from a to b;");
        }
        return s.toString();
    }

    private static String couples(int many) {
        StringBuilder s = new StringBuilder("room a;");
        for (int i = 0; i < many; i++) {
            s.append("couple c").append((char) ('a' + i)).append(" he a she a love 1;");
        }
        return s.toString();
    }

    private static void faultsOfHouses() {
        test("2: the end: the text's length", () -> {
            faults("room a;power", 2, 12);
            faults("room a;power    ", 2, 16);
            faults("room a;power 5\n", 2, 15);
        });
        test("5: power told already, at that WORD", () -> {
            faults("power 5;power 5;", 5, 8);
            faults("power 8;room a;power", 5, 15);
            faults("power 8;power 0;", 5, 8);
            faults("odds 1;power 8;odds 1;power 8;", 5, 15);
        });
        test("5: odds told already, at that WORD", () -> {
            faults("odds 0;odds 0;", 5, 7);
            faults("odds 2;odds", 5, 7);
            faults("odds 2;power 2;odds 17;", 5, 15);
        });
        test("5: a wire from a ROOM to itself, at the second ROOM's NAME", () -> {
            faults("room a;wire w from a to a;", 5, 24);
            faults("room a;room b;wire w from b to b slack 10;", 5, 31);
            takes("room a;room b;wire w from a to b;wire v from a to b;wire u from b to a;", 0);
        });
        test("6: a ninth room, at that WORD", () -> {
            takes(EIGHT, 0);
            faults(EIGHT + "room i;", 6, EIGHT.length());
            faults(EIGHT + "room a;", 6, EIGHT.length());
            faults(EIGHT + "room", 6, EIGHT.length());
            faults(EIGHT + "room 5;", 6, EIGHT.length());
        });
        test("6: an 11th wire, at that WORD", () -> {
            takes(wires(10), 0);
            faults(wires(11), 6, wires(10).length());
            faults(wires(10) + "wire wa from a to a;", 6, wires(10).length());
            faults(wires(10) + "wire", 6, wires(10).length());
        });
        test("6: a seventh couple, at that WORD", () -> {
            takes(couples(6), 6);
            faults(couples(7), 6, couples(6).length());
            faults(couples(6) + "couple a he b she b love 0;", 6, couples(6).length());
            faults(couples(6) + "couple", 6, couples(6).length());
        });
        test("ROOMS, at most 8; WIRES, at most 10; COUPLES, at most 6: all together", () -> {
            String all = wires(10) + couples(6).substring(7);
            BellPullHouse x = with(all);
            ok(x, "ROOMS", x.many(0), 8);
            ok(x, "WIRES", x.many(1), 10);
            ok(x, "COUPLES", x.many(2), 6);
            ok(x, "the last WIRE's NAME", years(x, "cut wj; when rung cf; end;"), 2);
        });
    }

    private static void faultsOfYears() {
        test("2: an end without a beginning", () -> {
            faultsYears("end;", 2, 0);
            faultsYears("end", 2, 0);
            faultsYears("day 1; end;", 2, 7);
            faultsYears("loop 1; end; end;", 2, 13);
            faultsYears("when rung m; loop 1; end; end; end;", 2, 31);
        });
        test("2: the text's end ahead of an end", () -> {
            faultsYears("loop 1;", 2, 7);
            faultsYears("loop 1;  ", 2, 9);
            faultsYears("when parted m; day 1;", 2, 21);
            faultsYears("loop 1; loop 1; end;", 2, 20);
            faultsYears("loop 1;loop 1;loop 1;end;end;", 2, 29);
        });
        test("3: a WIRE behind mend, cut; else a COUPLE", () -> {
            takesYears("mend u; cut u; when rung m; end; when love m=1; end; when parted m; end;", 5);
            for (String name : new String[] {"a", "b", "m", "q", "uu"}) {
                faultsYears("mend " + name + ";", 3, 5);
                faultsYears("cut " + name + ";", 3, 4);
            }
            for (String name : new String[] {"a", "b", "u", "q", "mm"}) {
                faultsYears("when rung " + name + ";end;", 3, 10);
                faultsYears("when love " + name + "=1;end;", 3, 10);
                faultsYears("when parted " + name + ";end;", 3, 12);
            }
        });
        test("3: a WIRE that was strung has no NAME", () -> {
            BellPullHouse x = with(NAMED);
            x.string(0, 1);
            ok(x, "years", years(x, "mend u;"), 1);
            no(x, "years", years(x, "mend v;"), 10);
            due("fault(0)", x.fault(0), 3);
        });
        test("6: a 31st STEP, at its WORD", () -> {
            takesYears("any;".repeat(30), 30);
            faultsYears("any;".repeat(31), 6, 120);
            faultsYears("any;".repeat(30) + "any", 6, 120);
            for (String word : new String[] {"day 0;", "damp", "dry;", "mend q;", "cut q;", "when;", "loop 0;", "stop;"}) {
                faultsYears("any;".repeat(30) + word, 6, 120);
            }
        });
        test("6: end is none", () -> {
            takesYears("loop 1;" + "any;".repeat(29) + "end;", 30);
            faultsYears("any;".repeat(30) + "end;", 2, 120);
            faultsYears("any;".repeat(30) + "q;", 2, 120);
            faultsYears("any;".repeat(30) + "!", 1, 120);
        });
        test("7: a when, loop within three others, at its WORD", () -> {
            takesYears("loop 1;loop 1;loop 1;any;end;any;end;any;end;", 6);
            faultsYears("loop 1;loop 1;loop 1;loop 1;end;end;end;end;", 7, 21);
            faultsYears("loop 1;loop 1;loop 1;when rung m;end;end;end;end;", 7, 21);
            faultsYears("when rung m;when rung m;when rung m;when", 7, 36);
            faultsYears("when rung m;when rung m;when rung m;loop 0;", 7, 36);
            faultsYears("loop 1;loop 1;loop 1;any;end;loop 1;loop 1;", 7, 36);
        });
        test("7: three others that have ended do not count", () -> {
            takesYears("loop 1;loop 1;loop 1;end;loop 1;end;end;loop 1;loop 1;end;end;end;", 6);
            takesYears("loop 1;end;loop 1;end;loop 1;end;loop 1;end;", 4);
        });
        test("of one TOKEN the least kind: 6 ahead of 7", () -> {
            String deep = "loop 1;loop 1;loop 1;" + "any;".repeat(27);
            faultsYears(deep + "loop 1;", 6, deep.length());
            faultsYears(deep + "when rung m;", 6, deep.length());
            String less = "loop 1;loop 1;loop 1;" + "any;".repeat(26);
            faultsYears(less + "loop 1;", 7, less.length());
        });
    }

    private static void firstFaults() {
        test("of one TOKEN the least kind: 1 ahead of 2 and 4", () -> {
            faults("12345", 1, 0);
            faults("room 12345;", 1, 5);
            faults("odds 99999;", 1, 5);
        });
        test("of one TOKEN the least kind: 2 ahead of 3 and 4", () -> {
            faults("room a;room 0;", 2, 12);
            faults("room a;wire w 0", 2, 14);
            faults("room a a", 2, 7);
            faults("room a;wire w from a to abcdefghi;", 2, 24);
        });
        test("of one TOKEN the least kind: 3 ahead of 5", () -> faults("wire w from a to a;", 3, 12));
        test("the first along the text", () -> {
            faults("room a;room a;room !;", 3, 12);
            faults("power 0;odds 17;", 4, 6);
            faults("power 100 100;", 4, 6);
            faults("power 5 !", 1, 8);
            faults("power 5 power 5;", 2, 8);
            faults("room a;wire w from a to a slack 99999;", 5, 24);
            faults("room a;couple c he q she q love 0;", 3, 19);
            faultsYears("cut q; day 41; end;", 3, 4);
            faultsYears("day 41; cut q;", 4, 4);
            faultsYears("when love q < 10; !", 3, 10);
        });
    }

    // ---- 12

    private static void toldFaults() {
        test("12: NONE ahead of any, and for others", () -> {
            BellPullHouse x = new BellPullHouse();
            for (int what : new int[] {0, 1, 2, -1, LEAST, MOST}) {
                due("fault(" + what + ")", x.fault(what), -1);
            }
            house(x, "!");
            for (int what : new int[] {2, 3, -1, LEAST, MOST}) {
                due("fault(" + what + ")", x.fault(what), -1);
            }
        });
        test("12: 0 without one, and NONE for its place", () -> {
            BellPullHouse x = new BellPullHouse();
            house(x, "room !");
            due("fault(0)", x.fault(0), 1);
            due("fault(1)", x.fault(1), 5);
            x.house(0);
            due("fault(0)", x.fault(0), 0);
            due("fault(1)", x.fault(1), -1);
        });
        test("12: a place 0 is told", () -> {
            BellPullHouse x = new BellPullHouse();
            house(x, "!");
            due("fault(0)", x.fault(0), 1);
            due("fault(1)", x.fault(1), 0);
        });
        test("12: of the latest of these with STATUS 0 or 10", () -> {
            BellPullHouse x = new BellPullHouse();
            no(x, "house", x.house(1), 5);
            due("STATUS 5 ahead of any", x.fault(0), -1);
            house(x, "room a;room a;");
            no(x, "years", x.years(301), 5);
            no(x, "house", x.house(-1), 5);
            due("fault(0) of the house", x.fault(0), 3);
            due("fault(1) of the house", x.fault(1), 12);
            years(x, "day 0;");
            due("fault(0) of the years", x.fault(0), 4);
            due("fault(1) of the years", x.fault(1), 4);
            x.years(0);
            due("fault(0)", x.fault(0), 0);
            due("fault(1)", x.fault(1), -1);
        });
    }
}
