/**
 * Promises 51 to 55: each sentence of the document that names a boundary of YEARS that are lived, of
 * their draws, of means and of MARKS has a test of its own here, on objects of its own.
 */
public final class BoundaryYearsTest {
    private static final int LEAST = Integer.MIN_VALUE;
    private static final int MOST = Integer.MAX_VALUE;
    private static final String ONE = "room a;room b;wire u from a to b;couple m he a she b love 5;";
    private static final String APART = "room a;room b;couple m he a she b love 5;";
    private static final String TEN = "odds 16;room a;room b;"
            + "wire p from a to b;wire q from b to a;wire r from a to b;wire s from a to b;wire t from a to b;"
            + "wire u from a to b;wire v from a to b;wire w from a to b;wire x from a to b;wire y from a to b;";
    /** 298 STEPS. */
    private static final String NEARLY = "loop 99;day 1;day 1;day 1;end;";

    private static int tests = 0;
    private static int broken = 0;
    private static boolean holds = true;
    private static String sentence = "";
    private static int drawn = 0;

    public static void main(String[] args) {
        seeds();
        yearsThereAre();
        daySteps();
        dampSteps();
        wireSteps();
        anySteps();
        draws();
        loops();
        tests();
        stops();
        threeHundred();
        livedTold();
        meansThatCanBe();
        meansTold();
        marksThatCanBe();
        marksTold();
        System.out.println(tests + " sentences, " + broken + " broken");
        if (broken != 0) {
            System.exit(1);
        }
    }

    // ---- what a test is made of

    private static void test(String words, Runnable body) {
        sentence = words;
        holds = true;
        body.run();
        tests++;
        if (!holds) {
            broken++;
        }
    }

    private static void due(String what, long got, long want) {
        if (got != want) {
            holds = false;
            System.out.println(sentence + ": " + what + " answered " + got + ", due is " + want);
        }
    }

    private static void ok(BellPullHouse x, String what, long got, long want) {
        due(what, got, want);
        due("status() of " + what, x.status(), 0);
    }

    private static void ok(BellPullHouse x, String what, boolean got) {
        ok(x, what, got ? 1 : 0, 1);
    }

    private static void no(BellPullHouse x, String what, long got, int status) {
        due(what, got, -1);
        due("status() of " + what, x.status(), status);
    }

    private static void no(BellPullHouse x, String what, boolean got, int status) {
        no(x, what, got ? 1 : -1, status);
    }

    private static void feed(BellPullHouse x, String s) {
        for (int i = 0; i < s.length(); i += 20) {
            int[] five = new int[5];
            for (int j = 0; j < 20; j++) {
                five[j / 4] = five[j / 4] << 8 | (i + j < s.length() ? s.charAt(i + j) & 255 : '~');
            }
            x.feed(five[0], five[1], five[2], five[3], five[4]);
        }
    }

    private static void house(BellPullHouse x, String s) {
        feed(x, s);
        x.house(s.length());
        due("house() of " + s, x.status(), 0);
    }

    private static void years(BellPullHouse x, String s) {
        feed(x, s);
        x.years(s.length());
        due("years() of " + s, x.status(), 0);
    }

    private static BellPullHouse with(String house, String years) {
        BellPullHouse x = new BellPullHouse();
        house(x, house);
        years(x, years);
        return x;
    }

    private static BellPullHouse onDay(int day, String house, String years) {
        BellPullHouse x = new BellPullHouse();
        house(x, house);
        for (int gone = 0; gone < day; gone += Math.min(99, day - gone)) {
            x.day(Math.min(99, day - gone));
        }
        due("the DAY", x.many(5), day);
        years(x, years);
        return x;
    }

    /** What live() and lived() tell: STEPS, then MISSED, DAYS, PARTED, WIRES cut, left. */
    private static void lives(BellPullHouse x, int seed, int... told) {
        ok(x, "live(" + seed + ")", x.live(seed), told[0]);
        tells(x, told[1], told[2], told[3], told[4], told[5]);
    }

    private static void tells(BellPullHouse x, int... told) {
        for (int what = 0; what < told.length; what++) {
            ok(x, "lived(" + what + ")", x.lived(what), told[what]);
        }
    }

    private static void isWire(BellPullHouse x, int wire, int slack, int whole) {
        ok(x, "SLACK of " + wire, x.wire(wire, 2), slack);
        ok(x, "whole is " + wire, x.wire(wire, 3), whole);
    }

    private static void isFraction(BellPullHouse x, long top, long bottom) {
        due("top()", x.top(), top);
        due("bottom()", x.bottom(), bottom);
    }

    private static void is(BellPullHouse x, String what, boolean got, long top, long bottom) {
        ok(x, what, got);
        isFraction(x, top, bottom);
    }

    private static int drawBy(int n) {
        drawn = (int) ((drawn * 2971L + 10859L) % 65536L);
        return drawn / 8 % n;
    }

    // ---- 51: seeds and STEPS

    private static void seeds() {
        test("51: a seed below 0, above 9,999", () -> {
            BellPullHouse x = with(ONE, "day 1;");
            for (int seed : new int[] {-1, 10000, 10001, LEAST, MOST}) {
                no(x, "live(" + seed + ")", x.live(seed), 5);
                no(x, "lived", x.lived(1), 8);
            }
            ok(x, "the DAY", x.many(5), 0);
        });
        test("51: seeds 0 and 9,999", () -> {
            BellPullHouse x = with(ONE, "day 1;");
            ok(x, "live(0)", x.live(0), 1);
            ok(x, "live(9999)", x.live(9999), 1);
            ok(x, "the DAY", x.many(5), 2);
        });
        test("51: 5 goes ahead of 8", () -> {
            BellPullHouse x = new BellPullHouse();
            no(x, "live(-1)", x.live(-1), 5);
            no(x, "live(10000)", x.live(10000), 5);
            no(x, "live(9999)", x.live(9999), 8);
        });
    }

    private static void yearsThereAre() {
        test("51: no YEARS at first", () -> {
            BellPullHouse x = new BellPullHouse();
            house(x, ONE);
            no(x, "live", x.live(0), 8);
            no(x, "mean", x.mean(0, 1), 8);
        });
        test("51: no YEARS behind a HOUSE that is taken", () -> {
            BellPullHouse x = with(ONE, "day 1;");
            house(x, ONE);
            no(x, "live", x.live(0), 8);
        });
        test("51: the YEARS stay behind a HOUSE that is not taken", () -> {
            BellPullHouse x = with(ONE, "day 1;");
            feed(x, "room");
            no(x, "house", x.house(4), 10);
            ok(x, "live", x.live(0), 1);
        });
        test("51: the YEARS stay behind YEARS that are not taken", () -> {
            BellPullHouse x = with(ONE, "day 1;");
            feed(x, "damp;damp;day");
            no(x, "years", x.years(13), 10);
            ok(x, "live", x.live(0), 1);
            ok(x, "the DAY", x.many(5), 1);
            ok(x, "dry", x.many(6), 0);
        });
        test("51: YEARS of no STEPS", () -> {
            BellPullHouse x = with(ONE, "");
            lives(x, 7, 0, 0, 0, 0, 0, 0);
        });
        test("51: YEARS are lived again from what has become", () -> {
            BellPullHouse x = with(ONE, "day 3;cut u;");
            lives(x, 0, 2, 0, 3, 0, 1, 0);
            lives(x, 0, 2, 1, 3, 0, 0, 0);
            ok(x, "the DAY", x.many(5), 6);
        });
        test("51: thirty STEPS, 25 of them loops with their ends", () -> {
            BellPullHouse x = with(ONE, "loop 2;end;".repeat(25) + "dry;".repeat(5));
            lives(x, 0, 30, 5, 0, 0, 0, 0);
        });
        test("51: thirty STEPS, the last of them within a loop", () -> {
            BellPullHouse x = with(ONE, "loop 2;end;".repeat(24) + "loop 9;dry;dry;dry;dry;end;dry;");
            lives(x, 0, 24 + 1 + 36 + 1, 37, 0, 0, 0, 0);
        });
        test("51: thirty STEPS", () -> {
            BellPullHouse x = with(ONE, "day 1;".repeat(30));
            lives(x, 0, 30, 0, 30, 0, 0, 0);
        });
    }

    private static void daySteps() {
        test("day: 1 and 40", () -> {
            BellPullHouse x = with(ONE, "day 1;day 40;");
            lives(x, 0, 2, 0, 41, 0, 0, 0);
            ok(x, "the DAY", x.many(5), 41);
        });
        test("day: just DAY 9,999", () -> {
            BellPullHouse x = onDay(9959, APART, "day 40;");
            lives(x, 0, 1, 0, 40, 0, 0, 0);
            ok(x, "the DAY", x.many(5), 9999);
        });
        test("day: beyond 9,999 it is MISSED as a whole", () -> {
            BellPullHouse x = onDay(9960, APART, "day 40;");
            x.wed(0, 3);
            lives(x, 0, 1, 1, 0, 0, 0, 0);
            ok(x, "the DAY", x.many(5), 9960);
            ok(x, "LOVE", x.couple(0, 2), 3);
        });
        test("day: on DAY 9,999", () -> {
            BellPullHouse x = onDay(9999, APART, "day 1;");
            x.wed(0, 1);
            lives(x, 0, 1, 1, 0, 0, 0, 0);
            ok(x, "LOVE", x.couple(0, 2), 1);
        });
        test("day: what comes behind a MISSED one is done", () -> {
            BellPullHouse x = onDay(9998, APART, "day 2;day 1;day 1;damp;");
            lives(x, 0, 4, 2, 1, 0, 0, 0);
            ok(x, "damp", x.many(6), 1);
        });
        test("day: COUPLES PART", () -> {
            BellPullHouse x = with("room a;room b;couple i he a she b love 9;couple j he a she b love 8;couple k he a she b love 7;"
                    + "couple l he a she b love 3;couple m he a she b love 2;couple n he a she b love 1;", "day 3;day 40;");
            lives(x, 0, 2, 0, 43, 6, 0, 0);
            ok(x, "HOLD", x.many(8), 0);
        });
    }

    private static void dampSteps() {
        test("damp: if it is so, it is MISSED", () -> {
            BellPullHouse x = with(ONE, "damp;");
            lives(x, 0, 1, 0, 0, 0, 0, 0);
            lives(x, 0, 1, 1, 0, 0, 0, 0);
            ok(x, "damp", x.many(6), 1);
        });
        test("dry: if it is so, it is MISSED", () -> {
            BellPullHouse x = with(ONE, "dry;");
            lives(x, 0, 1, 1, 0, 0, 0, 0);
            x.damp(true);
            lives(x, 0, 1, 0, 0, 0, 0, 0);
            ok(x, "dry", x.many(6), 0);
        });
        test("damp: WIRES stretch on DAYS, 9 at most", () -> {
            BellPullHouse x = with(ONE, "damp;day 40;dry;day 40;");
            lives(x, 0, 4, 0, 80, 1, 0, 0);
            isWire(x, 0, 9, 1);
        });
    }

    private static void wireSteps() {
        test("mend: whole without SLACK: MISSED", () -> {
            BellPullHouse x = with(ONE, "mend u;");
            lives(x, 0, 1, 1, 0, 0, 0, 0);
            isWire(x, 0, 0, 1);
        });
        test("mend: whole with SLACK", () -> {
            BellPullHouse x = with(ONE, "mend u;");
            x.stretch(0, 1);
            lives(x, 0, 1, 0, 0, 0, 0, 0);
            isWire(x, 0, 0, 1);
        });
        test("mend: cut, with SLACK or without", () -> {
            BellPullHouse x = with(ONE, "mend u;");
            x.cut(0);
            lives(x, 0, 1, 0, 0, 0, 0, 0);
            isWire(x, 0, 0, 1);
            x.stretch(0, 9);
            x.cut(0);
            lives(x, 0, 1, 0, 0, 0, 0, 0);
            isWire(x, 0, 0, 1);
        });
        test("cut: of what is cut: MISSED", () -> {
            BellPullHouse x = with(ONE, "cut u;");
            x.stretch(0, 4);
            lives(x, 0, 1, 0, 0, 0, 1, 0);
            isWire(x, 0, 4, 0);
            lives(x, 0, 1, 1, 0, 0, 0, 0);
            isWire(x, 0, 4, 0);
        });
        test("mend, cut: the tenth WIRE", () -> {
            BellPullHouse x = with(TEN, "cut y;cut p;mend y;");
            lives(x, 0, 3, 0, 0, 0, 2, 0);
            ok(x, "whole", x.many(7), 1022);
        });
    }

    private static void anySteps() {
        test("any: without WIRES: MISSED", () -> {
            BellPullHouse x = with("odds 16;room a;room b;", "any;any;");
            lives(x, 0, 2, 2, 0, 0, 0, 0);
        });
        test("any: without ROOMS: MISSED", () -> {
            BellPullHouse x = with("", "any;");
            lives(x, 0, 1, 1, 0, 0, 0, 0);
        });
        test("any: ODDS 16: it is cut, by every seed", () -> {
            BellPullHouse x = with("odds 16;room a;room b;wire u from a to b slack 3;", "any;");
            for (int seed = 0; seed < 70; seed++) {
                x.mend(0);
                x.stretch(0, 3);
                ok(x, "live", x.live(seed * 141), 1);
                ok(x, "cut", x.lived(3), 1);
            }
            isWire(x, 0, 3, 0);
        });
        test("any: ODDS 0: SLACK is 1 more, by every seed", () -> {
            BellPullHouse x = with("odds 0;room a;room b;wire u from a to b;", "any;");
            for (int seed = 0; seed < 60; seed++) {
                x.stretch(0, 3);
                ok(x, "live", x.live(seed * 141), 1);
                isWire(x, 0, 4, 1);
            }
            tells(x, 0, 0, 0, 0, 0);
        });
        test("any: SLACK from 8 to 9", () -> {
            BellPullHouse x = with("odds 0;room a;room b;wire u from a to b slack 8;", "any;");
            lives(x, 0, 1, 0, 0, 0, 0, 0);
            isWire(x, 0, 9, 1);
        });
        test("any: SLACK above 9: MISSED", () -> {
            BellPullHouse x = with("odds 0;room a;room b;wire u from a to b slack 9;", "any;");
            lives(x, 0, 1, 1, 0, 0, 0, 0);
            isWire(x, 0, 9, 1);
        });
        test("any: a WIRE of SLACK 9 is cut all the same", () -> {
            BellPullHouse x = with("odds 16;room a;room b;wire u from a to b slack 9;", "any;");
            lives(x, 0, 1, 0, 0, 0, 1, 0);
            isWire(x, 0, 9, 0);
        });
        test("any: of what is cut: MISSED, by ODDS 0 and 16", () -> {
            BellPullHouse x = with("odds 0;room a;room b;wire u from a to b slack 3;", "any;");
            x.cut(0);
            lives(x, 0, 1, 1, 0, 0, 0, 0);
            isWire(x, 0, 3, 0);
            x.rule(4, 16);
            lives(x, 0, 1, 1, 0, 0, 0, 0);
            isWire(x, 0, 3, 0);
        });
        test("any: a WIRE that was strung may be hit", () -> {
            BellPullHouse x = with("odds 16;room a;room b;", "any;");
            x.string(0, 1);
            lives(x, 0, 1, 0, 0, 0, 1, 0);
        });
    }

    private static void draws() {
        test("draws: the first, by ten WIRES, by all kinds of seeds", () -> {
            for (int first = 0; first < 10000; first += 500) {
                BellPullHouse x = with(TEN, "any;");
                x.mark();
                for (int seed = first; seed < first + 500; seed += 5) {
                    drawn = seed;
                    x.live(seed);
                    due("whole by seed " + seed, x.many(7), 1023 - (1 << drawBy(10)));
                    x.back();
                    x.mark();
                }
            }
        });
        test("draws: seeds 0, 1 and 9,999 by hand", () -> {
            // 10859 / 8 is 1357; 13830 / 8 is 1728; 9999 * 2971 + 10859 by 65536 leaves 30080, by 8 is 3760.
            BellPullHouse x = with(TEN, "any;");
            x.live(0);
            ok(x, "seed 0", x.many(7), 1023 - (1 << 7));
            x.mend(7);
            x.live(1);
            ok(x, "seed 1", x.many(7), 1023 - (1 << 8));
            x.mend(8);
            x.live(9999);
            ok(x, "seed 9,999", x.many(7), 1023 - 1);
        });
        test("draws: by 16, below ODDS: just ODDS is not", () -> {
            for (int odds = 0; odds <= 16; odds++) {
                BellPullHouse x = with("odds " + odds + ";room a;room b;wire u from a to b;", "any;");
                for (int seed = 0; seed < 64; seed++) {
                    drawn = seed * 37;
                    drawBy(1);
                    int cut = drawBy(16) < odds ? 1 : 0;
                    x.live(seed * 37);
                    due("cut by ODDS " + odds + ", seed " + seed * 37, x.lived(3), cut);
                    x.mend(0);
                }
            }
        });
        test("draws: both are made, though the WIRE is cut already", () -> {
            for (int seed = 0; seed < 400; seed++) {
                BellPullHouse x = with("odds 5;room a;room b;wire u from a to b;wire v from a to b slack 9;wire w from a to b;", "any;any;any;any;");
                x.cut(0);
                likeDrawn(x, seed * 25, 4);
            }
        });
        test("draws: go on through all STEPS of the YEARS", () -> {
            for (int seed = 0; seed < 200; seed++) {
                BellPullHouse x = with(TEN, "loop 30;any;end;");
                x.rule(4, 3);
                likeDrawn(x, seed * 50, 30);
            }
        });
        test("draws: begin anew with each live()", () -> {
            BellPullHouse x = with(TEN, "any;");
            x.live(5);
            int whole = x.many(7);
            x.live(5);
            ok(x, "the same WIRE", x.many(7), whole);
            ok(x, "MISSED", x.lived(0), 1);
        });
        test("draws: other STEPS make none", () -> {
            for (int seed = 0; seed < 100; seed++) {
                BellPullHouse x = with(TEN + "couple m he a she b love 5;",
                        "damp;dry;day 1;mend p;dry;when rung m;loop 2;end;end;any;");
                drawn = seed * 99;
                int hit = drawBy(10);
                x.live(seed * 99);
                due("whole", x.many(7), 1023 - (1 << hit));
            }
        });
    }

    /** Lives YEARS of so many anys by a seed, and holds all WIRES against what is drawn here. */
    private static void likeDrawn(BellPullHouse x, int seed, int anys) {
        int wires = x.many(1);
        int odds = x.many(4);
        int[] slack = new int[wires];
        boolean[] whole = new boolean[wires];
        for (int w = 0; w < wires; w++) {
            slack[w] = x.wire(w, 2);
            whole[w] = x.wire(w, 3) == 1;
        }
        drawn = seed;
        int missed = 0;
        int cuts = 0;
        for (int i = 0; i < anys; i++) {
            int wire = drawBy(wires);
            boolean isCut = drawBy(16) < odds;
            if (!whole[wire] || !isCut && slack[wire] == 9) {
                missed++;
            } else if (isCut) {
                whole[wire] = false;
                cuts++;
            } else {
                slack[wire]++;
            }
        }
        x.live(seed);
        due("MISSED by seed " + seed, x.lived(0), missed);
        due("WIRES cut by seed " + seed, x.lived(3), cuts);
        for (int w = 0; w < wires; w++) {
            due("SLACK of " + w + " by seed " + seed, x.wire(w, 2), slack[w]);
            due("whole is " + w + " by seed " + seed, x.wire(w, 3), whole[w] ? 1 : 0);
        }
    }

    // ---- 51: loops, TESTS, stops, three hundred

    private static void loops() {
        test("loop: 1: once", () -> lives(with(ONE, "loop 1;day 1;end;"), 0, 2, 0, 1, 0, 0, 0));
        test("loop: 99 times", () -> lives(with(ONE, "loop 99;day 1;end;"), 0, 100, 0, 99, 0, 0, 0));
        test("loop: 2: twice", () -> lives(with(ONE, "loop 2;day 1;day 2;end;"), 0, 5, 0, 6, 0, 0, 0));
        test("loop: with nothing in it: one STEP", () -> lives(with(ONE, "loop 99;end;"), 0, 1, 0, 0, 0, 0, 0));
        test("loop: one STEP each time it is come to from ahead; end is none",
                () -> lives(with(ONE, "loop 2;loop 3;day 1;end;end;"), 0, 1 + 2 + 6, 0, 6, 0, 0, 0));
        test("loop: three within one another", () -> lives(with(ONE, "loop 2;loop 2;loop 2;day 1;end;end;end;"), 0, 1 + 2 + 4 + 8, 0, 8, 0, 0, 0));
        test("loop: three within one another, with nothing in them",
                () -> lives(with(ONE, "loop 9;loop 9;loop 2;end;end;end;"), 0, 1 + 9 + 81, 0, 0, 0, 0, 0));
        test("loop: one behind another", () -> lives(with(ONE, "loop 2;day 1;end;loop 3;day 1;end;day 1;"), 0, 1 + 2 + 1 + 3 + 1, 0, 6, 0, 0, 0));
        test("loop: a STEP behind an inner one", () -> lives(with(ONE, "loop 2;loop 2;day 1;end;day 1;end;"), 0, 1 + 2 + 4 + 2, 0, 6, 0, 0, 0));
        test("loop: begins anew with each live()", () -> {
            BellPullHouse x = with(ONE, "loop 4;day 1;end;");
            lives(x, 0, 5, 0, 4, 0, 0, 0);
            lives(x, 0, 5, 0, 4, 0, 0, 0);
        });
        test("loop: begins anew behind one that a stop left", () -> {
            BellPullHouse x = with(ONE, "loop 4;day 1;when parted m;stop;end;end;");
            x.divorce(0);
            lives(x, 0, 4, 0, 1, 0, 0, 0);
            x.wed(0, 1);
            lives(x, 0, 1 + 8, 0, 4, 0, 0, 0);
        });
    }

    /** Whether a when lets its STEPS be done, with LOVE as told (0: PARTED). */
    private static void isSo(String test, int love, boolean so) {
        test("when " + test + ", LOVE " + love, () -> {
            BellPullHouse x = with(ONE, "when " + test + ";damp;end;");
            if (love == 0) {
                x.divorce(0);
            } else {
                x.wed(0, love);
            }
            lives(x, 0, so ? 2 : 1, 0, 0, 0, 0, 0);
            ok(x, "damp", x.many(6), so ? 1 : 0);
        });
    }

    private static void tests() {
        isSo("love m<0", 0, false);
        isSo("love m=0", 0, true);
        isSo("love m>0", 0, false);
        isSo("love m>0", 1, true);
        isSo("love m=0", 1, false);
        isSo("love m<1", 0, true);
        isSo("love m<1", 1, false);
        isSo("love m<9", 8, true);
        isSo("love m<9", 9, false);
        isSo("love m=9", 9, true);
        isSo("love m=9", 8, false);
        isSo("love m>9", 9, false);
        isSo("love m>8", 9, true);
        isSo("love m>8", 8, false);
        isSo("love m<5", 5, false);
        isSo("love m>5", 5, false);
        isSo("love m=5", 5, true);
        isSo("parted m", 0, true);
        isSo("parted m", 1, false);
        isSo("rung m", 1, true);
        isSo("rung m", 0, true);
        test("when rung: at just POWER, 1 beyond", () -> {
            BellPullHouse x = with("power 4;room a;room b;wire u from a to b slack 3;couple m he a she b love 5;", "when rung m;damp;end;");
            lives(x, 0, 2, 0, 0, 0, 0, 0);
            x.rule(3, 3);
            lives(x, 0, 1, 0, 0, 0, 0, 0);
        });
        test("when: with nothing in it, if it is so, if it is not", () -> {
            lives(with(ONE, "when rung m;end;"), 0, 1, 0, 0, 0, 0, 0);
            lives(with(ONE, "when parted m;end;"), 0, 1, 0, 0, 0, 0, 0);
        });
        test("when: if it is not so, all up to its own end is left out", () -> lives(
                with(ONE, "when parted m;damp;when rung m;damp;end;loop 2;damp;end;damp;end;day 1;"), 0, 2, 0, 1, 0, 0, 0));
        test("when: it is asked each time it is come to", () -> {
            BellPullHouse x = with(ONE, "loop 3;when rung m;cut u;end;end;");
            lives(x, 0, 1 + 3 + 1, 0, 0, 0, 1, 0);
        });
        test("when: the sixth COUPLE", () -> {
            BellPullHouse x = with("room a;couple i he a she a love 1;couple j he a she a love 1;couple k he a she a love 1;"
                    + "couple l he a she a love 1;couple m he a she a love 1;couple n he a she a love 7;", "when love n=7;damp;end;");
            lives(x, 0, 2, 0, 0, 0, 0, 0);
        });
    }

    private static void stops() {
        test("stop: the first STEP", () -> {
            BellPullHouse x = with(ONE, "stop;day 1;");
            lives(x, 0, 1, 0, 0, 0, 0, 0);
            ok(x, "the DAY", x.many(5), 0);
        });
        test("stop: the last STEP", () -> lives(with(ONE, "day 1;stop;"), 0, 2, 0, 1, 0, 0, 0));
        test("stop: within a loop, all of it", () -> lives(with(ONE, "loop 99;day 1;loop 9;stop;end;end;day 1;"), 0, 4, 0, 1, 0, 0, 0));
        test("stop: within a when that is not so", () -> lives(with(ONE, "when parted m;stop;end;day 1;"), 0, 2, 0, 1, 0, 0, 0));
        test("stop: no STEP is left by it", () -> lives(with(ONE, NEARLY + "day 1;stop;day 1;"), 0, 300, 0, 298, 0, 0, 0));
    }

    private static void threeHundred() {
        test("300: just 300 STEPS, none is left", () -> lives(with(ONE, NEARLY + "day 1;day 1;"), 0, 300, 0, 299, 0, 0, 0));
        test("300: the 301st is left", () -> {
            BellPullHouse x = with(ONE, NEARLY + "day 1;day 1;day 1;");
            lives(x, 0, 300, 0, 299, 0, 0, 1);
            ok(x, "the DAY", x.many(5), 299);
        });
        test("300: 299 STEPS", () -> lives(with(ONE, NEARLY + "day 1;"), 0, 299, 0, 298, 0, 0, 0));
        test("300: a stop that would be the 301st is left",
                () -> lives(with(ONE, NEARLY + "day 1;day 1;stop;"), 0, 300, 0, 299, 0, 0, 1));
        test("300: a loop's turns are left", () -> lives(with(ONE, "loop 99;day 1;day 1;day 1;day 1;end;"), 0, 300, 0, 299, 0, 0, 1));
        test("300: a loop's last turn is just done",
                () -> lives(with(ONE, "damp;dry;loop 99;day 1;day 1;day 1;end;"), 0, 300, 0, 297, 0, 0, 0));
        test("300: a loop is the 300th: with a STEP in it, with none", () -> {
            lives(with(ONE, NEARLY + "day 1;loop 2;day 1;end;"), 0, 300, 0, 298, 0, 0, 1);
            lives(with(ONE, NEARLY + "day 1;loop 99;end;"), 0, 300, 0, 298, 0, 0, 0);
        });
        test("300: a when is the 300th: so with a STEP in it, not so", () -> {
            lives(with(ONE, NEARLY + "day 1;when rung m;day 1;end;"), 0, 300, 0, 298, 0, 0, 1);
            lives(with(ONE, NEARLY + "day 1;when parted m;day 1;end;"), 0, 300, 0, 298, 0, 0, 0);
            lives(with(ONE, NEARLY + "day 1;when parted m;day 1;end;day 1;"), 0, 300, 0, 298, 0, 0, 1);
        });
        test("300: MISSED ones are counted, too", () -> lives(with(ONE, "loop 99;dry;dry;dry;dry;end;"), 0, 300, 299, 0, 0, 0, 1));
        test("300: loops are counted each time they are come to",
                () -> lives(with(ONE, "loop 99;loop 1;end;loop 1;end;loop 1;end;loop 1;end;end;"), 0, 300, 0, 0, 0, 0, 1));
        test("300: whens are counted each time they are come to",
                () -> lives(with(ONE, "loop 99;when rung m;end;when parted m;day 1;end;day 1;end;day 1;day 1;"), 0, 300, 0, 101, 0, 0, 0));
        // Two loops, then twice a loop and 99 DAYS, then a loop and 97: 295, of which 249 are DAYS to 9,999.
        test("300: the longest YEARS", () -> lives(with(ONE, "loop 99;loop 99;loop 99;day 40;end;end;end;"), 0, 300, 46, 9960, 0, 0, 1));
    }

    // ---- 52

    private static void livedTold() {
        test("52: what below 0, above 4", () -> {
            BellPullHouse x = with(ONE, "day 1;");
            x.live(0);
            for (int what : new int[] {-1, 5, 6, LEAST, MOST}) {
                no(x, "lived(" + what + ")", x.lived(what), 5);
            }
        });
        test("52: there was none", () -> {
            BellPullHouse x = with(ONE, "day 1;");
            for (int what = 0; what < 5; what++) {
                no(x, "lived(" + what + ")", x.lived(what), 8);
            }
        });
        test("52: 5 goes ahead of 8", () -> {
            BellPullHouse x = new BellPullHouse();
            no(x, "lived(-1)", x.lived(-1), 5);
            no(x, "lived(5)", x.lived(5), 5);
            no(x, "lived(4)", x.lived(4), 8);
        });
        test("52: a live() that is refused is none", () -> {
            BellPullHouse x = new BellPullHouse();
            no(x, "live", x.live(0), 8);
            no(x, "live", x.live(-1), 5);
            no(x, "lived", x.lived(0), 8);
        });
        test("52: a mean() is none", () -> {
            BellPullHouse x = with(ONE, "day 1;");
            x.mean(0, 3);
            no(x, "lived", x.lived(0), 8);
        });
        test("52: whatever came since", () -> {
            BellPullHouse x = with(ONE, "mend u;day 6;cut u;day 40;cut u;loop 99;dry;dry;dry;end;");
            x.mark();
            x.live(0);
            tells(x, 294 + 2, 46, 1, 1, 1);
            no(x, "live", x.live(10000), 5);
            x.mean(3, 4);
            x.back();
            tells(x, 296, 46, 1, 1, 1);
            years(x, "damp;");
            house(x, APART);
            no(x, "live", x.live(0), 8);
            tells(x, 296, 46, 1, 1, 1);
        });
        test("52: of the latest alone", () -> {
            BellPullHouse x = with(ONE, "mend u;day 6;cut u;day 40;");
            lives(x, 0, 4, 1, 46, 1, 1, 0);
            lives(x, 0, 4, 0, 46, 0, 1, 0);
            years(x, "");
            lives(x, 0, 0, 0, 0, 0, 0, 0);
        });
        test("52: WIRES that were cut, by cut and by any, mended ones, too", () -> {
            BellPullHouse x = with("odds 16;room a;room b;wire u from a to b;wire v from a to b;", "cut u;any;any;any;any;mend u;mend v;");
            x.live(0);
            ok(x, "WIRES cut", x.lived(3), 2);
            ok(x, "whole", x.many(7), 3);
        });
        test("52: COUPLES that PARTED ahead do not count", () -> {
            BellPullHouse x = with("room a;room b;couple m he a she b love 5;couple n he a she b love 5;", "day 40;");
            x.divorce(0);
            lives(x, 0, 1, 0, 40, 1, 0, 0);
        });
    }

    // ---- 53

    private static void meansThatCanBe() {
        test("53: 1 to 20 seeds", () -> {
            BellPullHouse x = with(ONE, "day 1;");
            for (int many : new int[] {0, -1, 21, 22, LEAST, MOST}) {
                no(x, "mean(0, " + many + ")", x.mean(0, many), 5);
            }
            isFraction(x, 0, 1);
            is(x, "1", x.mean(0, 1), 6, 1);
            is(x, "20", x.mean(0, 20), 6, 1);
        });
        test("53: from 0 on, not from below", () -> {
            BellPullHouse x = with(ONE, "day 1;");
            for (int seed : new int[] {-1, -20, LEAST}) {
                no(x, "mean(" + seed + ", 20)", x.mean(seed, 20), 5);
                no(x, "mean(" + seed + ", 1)", x.mean(seed, 1), 5);
            }
        });
        test("53: the last is 9,999", () -> {
            BellPullHouse x = with(ONE, "day 1;");
            is(x, "20 from 9,980", x.mean(9980, 20), 6, 1);
            is(x, "1 from 9,999", x.mean(9999, 1), 6, 1);
            is(x, "2 from 9,998", x.mean(9998, 2), 6, 1);
        });
        test("53: the last above 9,999", () -> {
            BellPullHouse x = with(ONE, "day 1;");
            no(x, "20 from 9,981", x.mean(9981, 20), 5);
            no(x, "2 from 9,999", x.mean(9999, 2), 5);
            no(x, "1 from 10,000", x.mean(10000, 1), 5);
            isFraction(x, 0, 1);
        });
        test("53: the greatest numbers", () -> {
            BellPullHouse x = with(ONE, "day 1;");
            no(x, "mean", x.mean(MOST, 20), 5);
            no(x, "mean", x.mean(MOST, 1), 5);
            no(x, "mean", x.mean(MOST, MOST), 5);
            no(x, "mean", x.mean(LEAST, LEAST), 5);
            no(x, "mean", x.mean(0, LEAST), 5);
            no(x, "mean", x.mean(1, MOST), 5);
        });
        test("53: no YEARS", () -> {
            BellPullHouse x = new BellPullHouse();
            no(x, "mean", x.mean(0, 1), 8);
            isFraction(x, 0, 1);
        });
        test("53: 5 goes ahead of 8", () -> {
            BellPullHouse x = new BellPullHouse();
            no(x, "many", x.mean(0, 0), 5);
            no(x, "many", x.mean(0, 21), 5);
            no(x, "seed", x.mean(-1, 1), 5);
            no(x, "the last", x.mean(9981, 20), 5);
        });
    }

    private static void meansTold() {
        test("53: 0 by 1: all PARTED, without COUPLES", () -> {
            BellPullHouse x = with(APART, "day 40;");
            is(x, "PARTED", x.mean(0, 20), 0, 1);
            BellPullHouse y = with("", "day 40;");
            y.years(0);
            is(y, "no COUPLES", y.mean(3, 7), 0, 1);
        });
        test("53: 54 by 1 at most", () -> {
            BellPullHouse x = with("room a;couple i he a she a love 9;couple j he a she a love 9;couple k he a she a love 9;"
                    + "couple l he a she a love 9;couple m he a she a love 9;couple n he a she a love 9;", "day 40;");
            is(x, "mean", x.mean(0, 20), 54, 1);
        });
        test("53: YEARS of no STEPS: LOVE as it is", () -> {
            BellPullHouse x = with(ONE, "");
            is(x, "mean", x.mean(0, 20), 5, 1);
        });
        test("53: by one seed it is as by live()", () -> {
            for (int seed = 0; seed < 40; seed++) {
                BellPullHouse x = with(ONE, "any;day 2;any;day 2;any;day 1;");
                x.rule(4, 6);
                x.mean(seed * 250, 1);
                long top = x.top();
                due("bottom", x.bottom(), 1);
                x.live(seed * 250);
                due("LOVE by seed " + seed * 250, x.many(10), top);
            }
        });
        test("53: of seeds from one on, each from what is now", () -> {
            for (int many = 1; many <= 20; many++) {
                BellPullHouse x = with(ONE, "any;day 2;any;day 2;any;day 1;");
                x.rule(4, 6);
                int sum = 0;
                for (int i = 0; i < many; i++) {
                    x.mark();
                    x.live(77 + i);
                    sum += x.many(10);
                    x.back();
                }
                ok(x, "mean", x.mean(77, many));
                due("top by bottom", x.top() * many, sum * x.bottom());
                for (int d = 2; d <= many; d++) {
                    due("a common divisor " + d, x.top() % d == 0 && x.bottom() % d == 0 ? 1 : 0, 0);
                }
            }
        });
        test("53: all stays as it is", () -> {
            BellPullHouse x = with(ONE, "damp;day 3;cut u;day 30;");
            x.mean(0, 20);
            ok(x, "the DAY", x.many(5), 0);
            ok(x, "dry", x.many(6), 0);
            isWire(x, 0, 0, 1);
            ok(x, "LOVE", x.couple(0, 2), 5);
            ok(x, "own DAYS", x.couple(0, 5), 0);
            no(x, "lived", x.lived(0), 8);
            lives(x, 0, 4, 0, 33, 1, 1, 0);
        });
    }

    // ---- 54, 55

    private static void marksThatCanBe() {
        test("54: 3 at most", () -> {
            BellPullHouse x = new BellPullHouse();
            ok(x, "first", x.mark(), 1);
            ok(x, "second", x.mark(), 2);
            ok(x, "third", x.mark(), 3);
            no(x, "fourth", x.mark(), 7);
            no(x, "fifth", x.mark(), 7);
        });
        test("55: none", () -> {
            BellPullHouse x = with(ONE, "day 1;");
            no(x, "back", x.back(), 8);
            ok(x, "LOVE", x.many(10), 5);
            ok(x, "live", x.live(0), 1);
        });
        test("55: how many there are left", () -> {
            BellPullHouse x = new BellPullHouse();
            x.mark();
            x.mark();
            x.mark();
            ok(x, "two", x.back(), 2);
            ok(x, "one", x.back(), 1);
            ok(x, "none", x.back(), 0);
            no(x, "none", x.back(), 8);
        });
        test("54: a MARK more behind one that is gone", () -> {
            BellPullHouse x = new BellPullHouse();
            x.mark();
            x.mark();
            x.mark();
            x.back();
            ok(x, "third", x.mark(), 3);
            no(x, "fourth", x.mark(), 7);
            x.back();
            x.back();
            x.back();
            ok(x, "first", x.mark(), 1);
        });
        test("54: a fourth MARK that is refused changes none of the three", () -> {
            BellPullHouse x = new BellPullHouse();
            for (int power = 11; power < 14; power++) {
                x.rule(3, power);
                x.mark();
            }
            x.rule(3, 14);
            no(x, "fourth", x.mark(), 7);
            ok(x, "POWER", x.many(3), 14);
            for (int power = 13; power > 10; power--) {
                x.back();
                ok(x, "POWER", x.many(3), power);
            }
        });
    }

    private static void marksTold() {
        test("55: to the latest MARK, which is gone then", () -> {
            BellPullHouse x = with(ONE, "");
            x.mark();
            x.wed(0, 6);
            x.mark();
            x.wed(0, 7);
            ok(x, "back", x.back(), 1);
            ok(x, "the latest", x.couple(0, 2), 6);
            ok(x, "back", x.back(), 0);
            ok(x, "the first", x.couple(0, 2), 5);
        });
        test("55: all that became of the HOUSE", () -> {
            BellPullHouse x = with(ONE, "");
            x.day(1);
            x.mark();
            x.damp(true);
            x.day(9);
            x.cut(0);
            x.string(0, 1);
            x.stretch(1, 4);
            x.move(0, 0, 1);
            x.move(0, 1, 0);
            x.divorce(0);
            x.rule(3, 1);
            x.rule(4, 1);
            ok(x, "back", x.back(), 0);
            int[] due = {2, 1, 1, 8, 2, 1, 0, 1, 1, 1, 6};
            for (int what = 0; what < due.length; what++) {
                ok(x, "many(" + what + ")", x.many(what), due[what]);
            }
            int[] couple = {0, 1, 6, 1, 1, 1, 0};
            for (int what = 0; what < couple.length; what++) {
                ok(x, "couple(0, " + what + ")", x.couple(0, what), couple[what]);
            }
            isWire(x, 0, 0, 1);
            no(x, "the WIRE that was strung", x.wire(1, 0), 2);
            ok(x, "FAR", x.far(0, 1), 1);
        });
        test("55: on how many DAYS she answered him, another one, that it was damp", () -> {
            BellPullHouse x = new BellPullHouse();
            house(x, "room a;room b;couple m he a she a love 9;couple n he b she a love 9;");
            x.damp(true);
            x.day(2);
            x.mark();
            x.damp(false);
            x.day(2);
            ok(x, "back", x.back(), 0);
            ok(x, "own", x.couple(0, 5), 2);
            ok(x, "another one's", x.couple(1, 6), 2);
            ok(x, "damp", x.many(6), 1);
            ok(x, "the DAY", x.many(5), 2);
        });
        test("55: over a HOUSE that was taken since", () -> {
            BellPullHouse x = with(ONE, "day 2;cut u;");
            x.mark();
            house(x, "room x;room y;room z;wire u from y to z slack 3;wire v from x to z;couple w he x she x love 1;");
            no(x, "live", x.live(0), 8);
            ok(x, "back", x.back(), 0);
            ok(x, "ROOMS", x.many(0), 2);
            ok(x, "WIRES", x.many(1), 1);
            isWire(x, 0, 0, 1);
            lives(x, 0, 2, 0, 2, 0, 1, 0);
        });
        test("55: the NAMES of the HOUSE, too", () -> {
            BellPullHouse x = with(ONE, "");
            x.mark();
            house(x, "room x;room y;wire v from x to y;couple w he x she y love 1;");
            x.back();
            years(x, "cut u;when rung m;end;");
            feed(x, "cut v;");
            no(x, "years", x.years(6), 10);
            due("fault(0)", x.fault(0), 3);
        });
        test("55: the YEARS", () -> {
            BellPullHouse x = with(ONE, "day 1;day 1;");
            x.mark();
            years(x, "day 1;");
            ok(x, "the new ones", x.live(0), 1);
            ok(x, "back", x.back(), 0);
            ok(x, "the old ones", x.live(0), 2);
        });
        test("55: no YEARS, if there were none", () -> {
            BellPullHouse x = new BellPullHouse();
            house(x, ONE);
            x.mark();
            years(x, "day 1;");
            x.back();
            no(x, "live", x.live(0), 8);
        });
        test("55: YEARS of no STEPS, if there were such", () -> {
            BellPullHouse x = with(ONE, "");
            x.mark();
            years(x, "day 1;");
            x.back();
            ok(x, "live", x.live(0), 0);
        });
        test("55: a MARK of an empty HOUSE", () -> {
            BellPullHouse x = new BellPullHouse();
            x.mark();
            house(x, ONE);
            x.back();
            int[] due = {0, 0, 0, 8, 2, 0, 0, 0, 0, 0, 0};
            for (int what = 0; what < due.length; what++) {
                ok(x, "many(" + what + ")", x.many(what), due[what]);
            }
            no(x, "FAR", x.far(0, 0), 2);
        });
        test("55: a full HOUSE", () -> {
            BellPullHouse x = with(TEN, "");
            x.mark();
            for (int w = 0; w < 10; w++) {
                x.cut(w);
            }
            x.back();
            ok(x, "whole", x.many(7), 1023);
            ok(x, "FAR", x.far(0, 1), 1);
        });
        test("54: what is done behind a MARK leaves it as it is", () -> {
            BellPullHouse x = with(ONE, "day 1;cut u;");
            x.mark();
            x.mark();
            x.live(0);
            x.back();
            ok(x, "whole", x.many(7), 1);
            x.live(0);
            x.day(40);
            x.back();
            ok(x, "whole", x.many(7), 1);
            ok(x, "the DAY", x.many(5), 0);
        });
    }
}
