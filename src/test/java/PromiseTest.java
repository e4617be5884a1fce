/** Each promise by its number: ordinary inputs, the edges that the document names, wrong inputs. */
public final class PromiseTest {
    private static int wrong = 0;
    private static int asked = 0;

    private static final String SMALL = "power 4; odds 4; room a; room b; room c; room d;"
            + "wire u from a to b; wire v from b to c slack 2; wire w from a to c slack 3;"
            + "couple x he a she c love 3; couple y he b she b love 9; couple z he d she a love 1;";

    public static void main(String[] args) {
        newObject();
        statusOfCalls();
        fractions();
        trays();
        pours();
        tapes();
        houses();
        houseFaults();
        yearsTexts();
        yearsFaults();
        tells();
        days();
        lastDay();
        damps();
        wires();
        people();
        rules();
        hearing();
        ways();
        ahead();
        mends();
        cuts();
        hangs();
        pulls();
        pairs();
        games();
        odds();
        lives();
        livesAreBounded();
        means();
        marks();
        System.out.println(asked + " answers asked for, " + wrong + " not as due");
        if (wrong != 0) {
            System.exit(1);
        }
    }

    private static void due(String what, long got, long want) {
        asked++;
        if (got != want) {
            wrong++;
            System.out.println(what + " answered " + got + ", due is " + want);
        }
    }

    private static void due(String what, boolean got, boolean want) {
        due(what, got ? 1 : 0, want ? 1 : 0);
    }

    /** The call answered NONE, or false, with this STATUS. */
    private static void no(BellPullHouse x, String what, long got, int status) {
        due(what, got, -1);
        due(what + ": STATUS", x.status(), status);
    }

    private static void no(BellPullHouse x, String what, boolean got, int status) {
        due(what, got, false);
        due(what + ": STATUS", x.status(), status);
    }

    private static int feed(BellPullHouse x, String s) {
        int fed = 0;
        for (int i = 0; i < s.length(); i += 20) {
            int[] five = new int[5];
            for (int j = 0; j < 20; j++) {
                five[j / 4] = five[j / 4] << 8 | (i + j < s.length() ? s.charAt(i + j) & 255 : ' ');
            }
            fed = x.feed(five[0], five[1], five[2], five[3], five[4]);
        }
        return fed;
    }

    private static BellPullHouse with(String house) {
        BellPullHouse x = new BellPullHouse();
        feed(x, house);
        x.house(house.length());
        due("the house is taken", x.status(), 0);
        return x;
    }

    private static BellPullHouse with(String house, String years) {
        BellPullHouse x = with(house);
        feed(x, years);
        x.years(years.length());
        due("the years are taken: " + years, x.status(), 0);
        return x;
    }

    private static String times(String s, int n) {
        return s.repeat(n);
    }

    private static void newObject() {
        BellPullHouse x = new BellPullHouse();
        due("1 status", x.status(), 0);
        due("1 top", x.top(), 0);
        due("1 bottom", x.bottom(), 1);
        int[] first = {0, 0, 0, 8, 2, 0, 0, 0, 0, 0, 0};
        for (int i = 0; i < first.length; i++) {
            due("1 many " + i, x.many(i), first[i]);
        }
        for (int t = 0; t < 4; t++) {
            no(x, "1 read", x.read(t, 0), 3);
        }
        no(x, "1 house(1)", x.house(1), 5);
        no(x, "1 years(1)", x.years(1), 5);
        no(x, "1 live", x.live(0), 8);
        no(x, "1 back", x.back(), 8);
        no(x, "1 lived", x.lived(0), 8);
    }

    private static void statusOfCalls() {
        BellPullHouse x = new BellPullHouse();
        x.cut(0);
        due("2 cut", x.status(), 2);
        x.top();
        x.bottom();
        x.fault(0);
        x.feed(0, 0, 0, 0, 0);
        due("2 these have none", x.status(), 2);
        x.parts();
        due("2 parts", x.status(), 0);
    }

    private static void fractions() {
        BellPullHouse x = with("room a; odds 4; couple m he a she a love 2;");
        x.lasts(0);
        due("3 top", x.top(), 1);
        due("4 bottom", x.bottom(), 1);
        no(x, "3 faith", x.faith(0), 8);
        due("3 a call with a STATUS leaves it", x.top(), 1);
        x.move(0, 1, 0);
        due("4 other calls leave it", x.bottom(), 1);
    }

    private static void trays() {
        BellPullHouse x = new BellPullHouse();
        no(x, "5 tray", x.tray(-1, 0, 1), 1);
        no(x, "5 tray", x.tray(4, 0, -1), 1);
        no(x, "5 sort", x.tray(0, 4, 61), 1);
        no(x, "5 sort", x.tray(0, -1, 1), 1);
        no(x, "5 length", x.tray(0, 0, 61), 5);
        no(x, "5 length", x.tray(0, 0, Integer.MAX_VALUE), 5);
        no(x, "5 length", x.tray(0, 0, Integer.MIN_VALUE), 6);
        no(x, "5 it is MISSING still", x.read(0, 0), 3);
        due("5 tray", x.tray(0, 0, 60), true);
        due("5 all 0", x.read(0, 59), 0);
        long v = 0x123456789abcdef0L;
        long[] cut = {(byte) v, (short) v, (int) v, v};
        for (int sort = 0; sort < 4; sort++) {
            due("6 tray", x.tray(1, sort, 2), true);
            due("6 write", x.write(1, 1, v), true);
            due("7 read", x.read(1, 1), cut[sort]);
            due("7 read", x.read(1, 0), 0);
        }
        due("6 write", x.write(1, 0, -1), true);
        due("7 read", x.read(1, 0), -1);
        due("7 STATUS tells it from NONE", x.status(), 0);
        x.tray(2, 1, 1);
        x.write(2, 0, 0x8000);
        due("6 with sign", x.read(2, 0), -32768);
        no(x, "6 write", x.write(4, 0, 1), 1);
        no(x, "6 write", x.write(3, 0, 1), 3);
        no(x, "6 write", x.write(1, 2, 1), 4);
        no(x, "6 write", x.write(1, -1, 1), 4);
        no(x, "7 read", x.read(-1, 0), 1);
        no(x, "7 read", x.read(3, 0), 3);
        no(x, "7 read", x.read(1, 2), 4);
        no(x, "7 read", x.read(1, Integer.MIN_VALUE), 4);
        x.tray(1, 3, 1);
        due("5 made anew", x.read(1, 0), 0);
        no(x, "5 made shorter", x.read(1, 1), 4);
        x.tray(1, 0, 0);
        no(x, "7 none there", x.read(1, 0), 4);
    }

    private static void pours() {
        BellPullHouse x = new BellPullHouse();
        x.tray(0, 2, 5);
        for (int i = 0; i < 5; i++) {
            x.write(0, i, i + 1);
        }
        due("8 over itself", x.pour(0, 0, 0, 1, 4), true);
        int[] after = {1, 1, 2, 3, 4};
        for (int i = 0; i < 5; i++) {
            due("8 as they were", x.read(0, i), after[i]);
        }
        x.tray(1, 2, 3);
        due("8 to another one", x.pour(0, 2, 1, 0, 3), true);
        due("8 first", x.read(1, 0), 2);
        due("8 last", x.read(1, 2), 4);
        due("8 none", x.pour(0, 5, 1, 3, 0), true);
        x.tray(2, 3, 5);
        no(x, "8 no such", x.pour(0, 9, 4, 9, -1), 1);
        no(x, "8 no such", x.pour(-1, 9, 3, 9, -1), 1);
        no(x, "8 MISSING", x.pour(2, 9, 3, 9, -1), 3);
        no(x, "8 MISSING", x.pour(3, 9, 0, 9, -1), 3);
        no(x, "8 unlike", x.pour(0, 9, 2, 9, -1), 11);
        no(x, "8 below 0", x.pour(0, 9, 1, 9, -1), 6);
        no(x, "8 too few", x.pour(0, 3, 1, 0, 3), 4);
        no(x, "8 too few", x.pour(0, 0, 1, 1, 3), 4);
        no(x, "8 no place", x.pour(0, -1, 1, 0, 1), 4);
        no(x, "8 no place", x.pour(0, 0, 1, Integer.MAX_VALUE, 1), 4);
        no(x, "8 no place", x.pour(0, Integer.MAX_VALUE, 1, 0, Integer.MAX_VALUE), 4);
    }

    private static void tapes() {
        BellPullHouse x = new BellPullHouse();
        for (int i = 1; i <= 45; i++) {
            due("9 feed", x.feed(0x726f6f6d, 0x20610a3b, 0x20202020, 0x20202020, 0x20202020), 20 * i);
        }
        due("9 feed", x.feed(0, 0, 0, 0, 0), -1);
        no(x, "10 more than there are", x.house(901), 5);
        no(x, "10 below 0", x.house(-1), 5);
        no(x, "10 the second room a", x.house(900), 10);
        due("12 fault", x.fault(0), 3);
        due("12 place", x.fault(1), 25);
        due("9 the tape is empty then", x.feed(0x726f6f6d, 0x20610a3b, 0x20202020, 0x20202020, 0x20202020), 20);
        due("10 the highest byte of each int first", x.house(8), 0);
        due("13 rooms", x.many(0), 1);
        due("9 the tape is empty then", x.feed(0, 0, 0, 0, 0), 20);
        no(x, "11 more than 300", x.years(301), 5);
        no(x, "10 byte 0 is no token", x.house(20), 10);
        due("12 fault", x.fault(0), 1);
        due("12 place", x.fault(1), 0);
        for (int i = 0; i < 16; i++) {
            x.feed(0x20202020, 0x20202020, 0x20202020, 0x20202020, 0x20202020);
        }
        no(x, "11 above 300", x.years(301), 5);
        due("11 300", x.years(300), 0);
    }

    private static void houses() {
        BellPullHouse x = new BellPullHouse();
        due("12 ahead of any", x.fault(0), -1);
        due("12 ahead of any", x.fault(1), -1);
        due("10 no text at all", x.house(0), 0);
        due("12 without one", x.fault(0), 0);
        due("12 without one", x.fault(1), -1);
        due("12 others", x.fault(2), -1);
        due("12 others", x.fault(-1), -1);
        String s = "odds 0016 ;\npower 99;room eightlet;room b;wire w from b to eightlet slack 9;couple c he b she b love 9;";
        feed(x, s);
        due("10 house", x.house(s.length()), 1);
        due("13 power", x.many(3), 99);
        due("13 odds", x.many(4), 16);
        due("14 slack", x.wire(0, 2), 9);
        due("14 from", x.wire(0, 0), 1);
        due("14 to", x.wire(0, 1), 0);
        x.day(3);
        x.damp(true);
        x.divorce(0);
        feed(x, "damp;");
        due("11 years", x.years(5), 1);
        feed(x, s);
        no(x, "10 no end", x.house(s.length() - 1), 10);
        due("12 place", x.fault(1), s.length() - 1);
        due("10 the old one stays", x.many(5), 3);
        due("10 its years, too", x.live(0), 1);
        no(x, "10 damp missed", x.house(99), 5);
        due("12 STATUS 5 tells nothing", x.fault(0), 2);
        feed(x, SMALL);
        due("10 house", x.house(SMALL.length()), 3);
        due("10 DAY 0", x.many(5), 0);
        due("10 dry", x.many(6), 0);
        due("10 all hold", x.many(8), 7);
        no(x, "10 no YEARS", x.live(0), 8);
        due("14 slack without", x.wire(0, 2), 0);
    }

    private static void faultOfHouse(String s, int kind, int place) {
        BellPullHouse x = new BellPullHouse();
        feed(x, s);
        no(x, "10 " + s, x.house(s.length()), 10);
        due("12 kind: " + s, x.fault(0), kind);
        due("12 place: " + s, x.fault(1), place);
    }

    private static void houseFaults() {
        faultOfHouse("room a;\troom b;", 1, 7);
        faultOfHouse("room A;", 1, 5);
        faultOfHouse("room \u00e9;", 1, 5);
        faultOfHouse("power 12345;", 1, 6);
        faultOfHouse("room 12345;", 1, 5);
        faultOfHouse("power", 2, 5);
        faultOfHouse("power  ", 2, 7);
        faultOfHouse("power a;", 2, 6);
        faultOfHouse("power 5", 2, 7);
        faultOfHouse("power 5 5;", 2, 8);
        faultOfHouse("powers 5;", 2, 0);
        faultOfHouse("; ", 2, 0);
        faultOfHouse("room ninelette;", 2, 5);
        faultOfHouse("room room;", 2, 5);
        faultOfHouse("room stop;", 2, 5);
        faultOfHouse("room a1;", 2, 6);
        faultOfHouse("room a<;", 2, 6);
        faultOfHouse("day 1;", 2, 0);
        faultOfHouse("room a;room b;wire a from a to b;", 3, 19);
        faultOfHouse("room a;room a;", 3, 12);
        faultOfHouse("room a;room b;wire w from w to b;", 3, 26);
        faultOfHouse("room a;wire w from a to b;room b;", 3, 24);
        faultOfHouse("room a;wire w from a to slack;", 2, 24);
        faultOfHouse("room a;wire w from ninelette to a;", 2, 19);
        faultOfHouse("room a;couple c he c she a love 1;", 3, 19);
        faultOfHouse("room a;couple c he a she b love 1;", 3, 25);
        faultOfHouse("room a;couple c he a she a love 1;room c;", 3, 39);
        faultOfHouse("room a;couple c he a she a love 0;", 4, 32);
        faultOfHouse("room a;couple c he a she a love 10;", 4, 32);
        faultOfHouse("room a;couple c he a she a;", 2, 26);
        faultOfHouse("power 0;", 4, 6);
        faultOfHouse("power 100;", 4, 6);
        faultOfHouse("odds 17;", 4, 5);
        faultOfHouse("room a;room b;wire w from a to b slack 10;", 4, 39);
        faultOfHouse("room a;room b;wire w from a to b slack;", 2, 38);
        faultOfHouse("power 5;power 6;", 5, 8);
        faultOfHouse("power 8;power", 5, 8);
        faultOfHouse("odds 2;power 5;odds 3;", 5, 15);
        faultOfHouse("room a;wire w from a to a;", 5, 24);
        String eight = "room a;room b;room c;room d;room e;room f;room g;room h;";
        faultOfHouse(eight + "room a;", 6, 56);
        StringBuilder ten = new StringBuilder(eight);
        for (int i = 0; i < 10; i++) {
            ten.append("wire w").append((char) ('a' + i)).append(" from a to b;");
        }
        faultOfHouse(ten + "wire", 6, ten.length());
        StringBuilder six = new StringBuilder(ten);
        for (int i = 0; i < 6; i++) {
            six.append("couple c").append((char) ('a' + i)).append(" he a she b love 1;");
        }
        faultOfHouse(six + "couple 5;", 6, six.length());
        shortOf("power 99999;", 7, 2, 7);
        shortOf("rooms a;", 4, 2, 4);
        shortOf("room a;    ", 6, 2, 6);
        shortOf("room a;   !", 6, 2, 6);
        BellPullHouse x = with(six.toString());
        due("13 rooms", x.many(0), 8);
        due("13 wires", x.many(1), 10);
        due("13 couples", x.many(2), 6);
    }

    /** What stands behind the first n bytes does not matter. */
    private static void shortOf(String s, int n, int kind, int place) {
        BellPullHouse x = new BellPullHouse();
        feed(x, s);
        no(x, "10 the first " + n + " of " + s, x.house(n), 10);
        due("12 kind", x.fault(0), kind);
        due("12 place", x.fault(1), place);
    }

    private static void yearsTexts() {
        BellPullHouse x = with(SMALL);
        String s = "day 40; damp; dry; mend u; cut v; any; when rung x; when love y<0; when parted z; stop; end; end; end; loop 99; end;";
        feed(x, s);
        due("11 how many STEPS", x.years(s.length()), 11);
        feed(x, s);
        no(x, "11 below 0", x.years(-1), 5);
        no(x, "11 the tape stays with 5", x.years(400), 5);
        due("11 the tape stays with 5", x.years(6), -1);
        due("12 fault", x.fault(0), 2);
        due("12 place", x.fault(1), 6);
        due("11 the old ones stay", x.live(0), 9);
        feed(x, times("any;", 30));
        due("11 thirty", x.years(120), 30);
        due("11 no text at all", x.years(0), 0);
        due("51 YEARS of no STEPS", x.live(0), 0);
        due("51 STATUS", x.status(), 0);
        x.string(0, 1);
        feed(x, "mend u; cut u;");
        due("11 a strung wire has no name, the others keep theirs", x.years(14), 2);
    }

    private static void faultOfYears(String s, int kind, int place) {
        BellPullHouse x = with(SMALL);
        feed(x, s);
        no(x, "11 " + s, x.years(s.length()), 10);
        due("12 kind: " + s, x.fault(0), kind);
        due("12 place: " + s, x.fault(1), place);
    }

    private static void yearsFaults() {
        faultOfYears("day 1; D", 1, 7);
        faultOfYears("loop 00001;", 1, 5);
        faultOfYears("end;", 2, 0);
        faultOfYears("when rung x; end; end;", 2, 18);
        faultOfYears("when rung x; day 1;", 2, 19);
        faultOfYears("loop 2; end", 2, 11);
        faultOfYears("room q;", 2, 0);
        faultOfYears("mend ninelette;", 2, 5);
        faultOfYears("mend any;", 2, 5);
        faultOfYears("when love x;", 2, 11);
        faultOfYears("when love x ; 1;", 2, 12);
        faultOfYears("when love x < y;", 2, 14);
        faultOfYears("when day 1;", 2, 5);
        faultOfYears("when rung rung;", 2, 10);
        faultOfYears("mend x;", 3, 5);
        faultOfYears("cut a;", 3, 4);
        faultOfYears("cut q;", 3, 4);
        faultOfYears("when rung u; end;", 3, 10);
        faultOfYears("when love a < 1; end;", 3, 10);
        faultOfYears("when parted q; end;", 3, 12);
        faultOfYears("day 41;", 4, 4);
        faultOfYears("day 0;", 4, 4);
        faultOfYears("loop 100; end;", 4, 5);
        faultOfYears("when love x < 10; end;", 4, 14);
        faultOfYears(times("any;", 30) + "any;", 6, 120);
        faultOfYears(times("any;", 30) + "q;", 2, 120);
        faultOfYears(times("loop 1;", 3) + times("any;", 27) + "loop", 6, 129);
        faultOfYears("loop 1;when rung x;loop 2;when", 7, 26);
        faultOfYears("loop 1;when rung x;loop 2;loop 1;", 7, 26);
        BellPullHouse x = with(SMALL);
        String s = "loop 1;" + times("any;", 29) + "end;";
        feed(x, s);
        due("11 end is no STEP", x.years(s.length()), 30);
        String three = "loop 1;loop 1;loop 1;end;end;end;";
        feed(x, three + three);
        due("11 three deep, twice", x.years(66), 6);
    }

    private static void tells() {
        BellPullHouse x = with(SMALL);
        int[] many = {4, 3, 3, 4, 4, 0, 0, 7, 7, 3, 13};
        for (int i = 0; i < many.length; i++) {
            due("13 many " + i, x.many(i), many[i]);
        }
        no(x, "13 many", x.many(11), 5);
        no(x, "13 many", x.many(-1), 5);
        int[] wire = {1, 2, 2, 1};
        int[] couple = {0, 2, 3, 1, 1, 0, 0};
        for (int i = 0; i < 4; i++) {
            due("14 wire", x.wire(1, i), wire[i]);
        }
        for (int i = 0; i < 7; i++) {
            due("15 couple", x.couple(0, i), couple[i]);
        }
        no(x, "14 wire", x.wire(3, 9), 2);
        no(x, "14 wire", x.wire(-1, 0), 2);
        no(x, "14 wire", x.wire(2, 4), 5);
        no(x, "14 wire", x.wire(2, -1), 5);
        no(x, "15 couple", x.couple(3, 9), 2);
        no(x, "15 couple", x.couple(-1, 0), 2);
        no(x, "15 couple", x.couple(2, 7), 5);
        no(x, "16 copyLove", x.copyLove(4), 1);
        no(x, "16 copyLove", x.copyLove(0), 3);
        x.tray(0, 0, 2);
        no(x, "16 copyLove", x.copyLove(0), 4);
        due("16 nothing came", x.read(0, 0), 0);
        x.tray(0, 3, 4);
        x.write(0, 3, 77);
        due("16 copyLove", x.copyLove(0), 3);
        due("16 love", x.read(0, 0), 3);
        due("16 love", x.read(0, 1), 9);
        due("16 love", x.read(0, 2), 1);
        due("16 the others stay", x.read(0, 3), 77);
    }

    private static void days() {
        BellPullHouse x = with(SMALL);
        no(x, "17 day", x.day(0), 5);
        no(x, "17 day", x.day(100), 5);
        no(x, "17 day", x.day(-1), 5);
        due("17 z parts: she answered x", x.day(1), 4);
        due("17 x lost 2", x.couple(0, 2), 1);
        due("15 another one", x.couple(0, 6), 1);
        due("15 her own", x.couple(1, 5), 1);
        due("17 9 at most", x.couple(1, 2), 9);
        due("17 parted", x.couple(2, 3), 0);
        due("15 another one", x.couple(2, 6), 1);
        due("17 the DAY", x.many(5), 1);
        due("17 no love below 0", x.day(2), 1);
        due("17 love", x.couple(0, 2), 0);
        due("17 none answers when parted", x.couple(0, 6), 2);
        BellPullHouse y = with("power 1; room a; room b; couple m he a she b love 3;");
        due("17 none is heard: 1 less a day", y.day(2), 0);
        due("17 love", y.couple(0, 2), 1);
        due("17 parts", y.day(1), 1);
        due("15 nobody was answered", y.couple(0, 5) + y.couple(0, 6), 0);
        BellPullHouse z = with("power 2; room a; room b; wire w from a to b slack 1;"
                + "couple m he a she b love 5; couple n he a she b love 5;");
        due("17 as near: her own", z.day(4), 0);
        due("17 m", z.couple(0, 2), 9);
        due("17 n", z.couple(1, 2), 9);
        BellPullHouse v = with("room a; room b; wire w from a to b; couple m he b she b love 5;"
                + "couple n he a she a love 5; couple o he b she a love 9; couple p he a she b love 4;");
        due("17 a parted one's pull is none", v.day(2), 8);
        due("17 set of several days", v.day(5), 4);
    }

    private static void lastDay() {
        BellPullHouse x = with("room a; couple m he a she a love 2;", "day 1; day 2;");
        for (int i = 0; i < 100; i++) {
            x.day(99);
        }
        due("17 day 9,998", x.day(98), 0);
        no(x, "17 above 9,999", x.day(2), 7);
        due("17 nothing changed", x.many(5), 9998);
        due("33 DAY 9,999 does not matter", x.loveIn(0, 300), 9);
        due("36 nor here", x.holdIn(300), 1);
        due("51 the second is MISSED as a whole", x.live(0), 2);
        due("52 MISSED", x.lived(0), 1);
        due("52 DAYS", x.lived(1), 1);
        due("17 day 9,999", x.many(5), 9999);
        no(x, "17 above 9,999", x.day(1), 7);
        BellPullHouse y = with("room a; couple m he a she a love 2;");
        for (int i = 0; i < 100; i++) {
            y.day(99);
        }
        no(y, "17 nor that from 9,900", y.day(99) < 0 ? 0 : y.day(1), 7);
        due("17 day 9,999 by day()", y.many(5), 9999);
        due("50 faith", x.faith(0), true);
        due("50 top", x.top(), 1);
        due("50 bottom", x.bottom(), 1);
    }

    private static void damps() {
        BellPullHouse x = with(SMALL);
        no(x, "18 dry", x.damp(false), 9);
        due("18 damp", x.damp(true), true);
        no(x, "18 damp", x.damp(true), 9);
        x.cut(1);
        x.day(1);
        due("18 a whole wire stretches", x.wire(0, 2), 1);
        due("18 a cut one does not", x.wire(1, 2), 2);
        x.day(99);
        due("18 9 at most", x.wire(0, 2), 9);
        due("18 9 at most", x.wire(2, 2), 9);
        due("18 dry", x.damp(false), true);
        x.mend(0);
        x.day(5);
        due("18 no more", x.wire(0, 2), 0);
        BellPullHouse y = with("power 2; room a; room b; wire w from a to b; couple m he a she b love 5;");
        y.damp(true);
        y.day(1);
        due("17 heard ahead of the stretching", y.couple(0, 2), 6);
        y.day(1);
        due("17 still", y.couple(0, 2), 7);
        y.day(1);
        due("17 no longer", y.couple(0, 2), 6);
    }

    private static void wires() {
        BellPullHouse x = with(SMALL);
        due("19 cut", x.cut(2), 3);
        no(x, "19 cut", x.cut(2), 9);
        no(x, "19 cut", x.cut(3), 2);
        no(x, "19 cut", x.cut(-1), 2);
        due("19 not whole", x.wire(2, 3), 0);
        due("19 its SLACK stays", x.wire(2, 2), 3);
        due("21 stretch, not whole", x.stretch(2, 7), true);
        due("20 mend", x.mend(2), 7);
        due("20 whole", x.wire(2, 3), 1);
        due("20 without SLACK", x.wire(2, 2), 0);
        no(x, "20 mend", x.mend(2), 9);
        no(x, "20 mend", x.mend(3), 2);
        due("20 mend what is whole with SLACK", x.mend(1), 2);
        x.cut(0);
        due("20 mend what is cut without SLACK", x.mend(0), 0);
        due("21 stretch", x.stretch(0, 9), true);
        due("21 slack", x.wire(0, 2), 9);
        no(x, "21 stretch", x.stretch(0, 10), 5);
        no(x, "21 stretch", x.stretch(0, -1), 5);
        no(x, "21 stretch", x.stretch(3, 10), 2);
        due("21 slack stays", x.wire(0, 2), 9);
        no(x, "22 string", x.string(0, 4), 2);
        no(x, "22 string", x.string(-1, 0), 2);
        no(x, "22 string", x.string(9, 9), 2);
        no(x, "22 string", x.string(1, 1), 5);
        for (int i = 3; i < 10; i++) {
            due("22 string", x.string(3, 0), i);
        }
        due("22 one room", x.wire(9, 0), 3);
        due("22 the other one", x.wire(9, 1), 0);
        due("22 without SLACK", x.wire(9, 2), 0);
        due("22 whole", x.wire(9, 3), 1);
        no(x, "22 an 11th", x.string(3, 0), 7);
        no(x, "22 to itself", x.string(3, 3), 5);
        due("13 whole", x.many(7), 1023);
    }

    private static void people() {
        BellPullHouse x = with(SMALL);
        no(x, "23 move", x.move(3, 0, 0), 2);
        no(x, "23 move", x.move(0, 0, 4), 2);
        no(x, "23 move", x.move(0, 2, 4), 2);
        no(x, "23 move", x.move(0, 2, 0), 5);
        no(x, "23 move", x.move(0, -1, 0), 5);
        no(x, "23 move", x.move(0, 0, 0), 9);
        no(x, "23 move", x.move(0, 1, 2), 9);
        due("23 move her", x.move(0, 1, 3), 2);
        due("23 she", x.couple(0, 1), 3);
        due("23 move him", x.move(0, 0, 3), 0);
        due("23 he", x.couple(0, 0), 3);
        no(x, "24 wed", x.wed(3, 0), 2);
        no(x, "24 wed", x.wed(0, 0), 5);
        no(x, "24 wed", x.wed(0, 10), 5);
        due("24 love", x.couple(0, 2), 3);
        due("24 wed", x.wed(0, 1), true);
        due("24 love", x.couple(0, 2), 1);
        due("25 divorce", x.divorce(1), 9);
        due("25 love", x.couple(1, 2), 0);
        due("25 parted", x.many(8), 5);
        no(x, "25 divorce", x.divorce(1), 9);
        no(x, "25 divorce", x.divorce(3), 2);
        no(x, "25 divorce", x.divorce(-1), 2);
        due("24 wed again", x.wed(1, 9), true);
        due("24 it holds", x.many(8), 7);
    }

    private static void rules() {
        BellPullHouse x = with(SMALL);
        due("26 rule", x.rule(3, 99), true);
        due("26 POWER", x.many(3), 99);
        due("26 rule", x.rule(3, 1), true);
        due("26 rule", x.rule(4, 0), true);
        due("26 ODDS", x.many(4), 0);
        due("26 rule", x.rule(4, 16), true);
        no(x, "26 rule", x.rule(3, 0), 5);
        no(x, "26 rule", x.rule(3, 100), 5);
        no(x, "26 rule", x.rule(4, -1), 5);
        no(x, "26 rule", x.rule(4, 17), 5);
        no(x, "26 rule", x.rule(2, 5), 5);
        no(x, "26 rule", x.rule(5, 5), 5);
        due("26 POWER", x.many(3), 1);
        due("26 ODDS", x.many(4), 16);
    }

    private static void hearing() {
        BellPullHouse x = with(SMALL);
        due("27 far", x.far(0, 2), 4);
        due("27 far", x.far(2, 1), 3);
        due("27 far", x.far(3, 3), 0);
        no(x, "27 no way", x.far(0, 3), 8);
        no(x, "27 far", x.far(0, 4), 2);
        no(x, "27 far", x.far(-1, 0), 2);
        due("28 heard", x.heard(0), 7);
        due("28 heard", x.heard(3), 8);
        no(x, "28 heard", x.heard(4), 2);
        x.rule(3, 3);
        due("28 heard", x.heard(0), 3);
        due("28 heard", x.heard(2), 6);
        due("29 rings", x.rings(0), 6);
        due("29 rings", x.rings(1), 7);
        due("29 rings", x.rings(2), 0);
        no(x, "29 rings", x.rings(3), 2);
        x.divorce(1);
        due("29 PARTED or not", x.rings(1), 7);
        due("13 RUNG, PARTED or not", x.many(9), 2);
        no(x, "30 none is heard", x.answers(0), 8);
        no(x, "30 PARTED", x.answers(1), 9);
        due("30 another one", x.answers(2), 0);
        no(x, "30 answers", x.answers(3), 2);
        x.wed(1, 1);
        due("30 her own", x.answers(1), 1);
        due("30 the nearest", x.answers(0), 1);
        BellPullHouse y = with("room a; couple m he a she a love 1; couple n he a she a love 1;");
        due("30 of several her own", y.answers(1), 1);
        y.string(0, 0);
        y.divorce(1);
        no(y, "30 a parted one answers none", y.answers(1), 9);
        y.divorce(0);
        no(y, "30 8 goes ahead of 9", y.answers(1), 8);
        BellPullHouse z = with("room a; room b; couple m he b she a love 1; couple n he b she a love 1;"
                + "couple o he a she b love 1; couple p he a she b love 1; wire w from a to b;");
        z.move(1, 1, 1);
        due("30 else the first", z.answers(2), 0);
        due("30 else the first", z.answers(0), 2);
    }

    private static void ways() {
        BellPullHouse x = with(SMALL);
        due("31 first", x.way(0, 2, 0), 0);
        due("31 by the first ROOM", x.way(0, 2, 1), 1);
        due("31 last", x.way(0, 2, 2), 2);
        no(x, "31 no such place", x.way(0, 2, 3), 8);
        due("31 the other way", x.way(2, 0, 1), 0);
        no(x, "31 it is shorter", x.way(2, 0, 2), 8);
        due("31 itself", x.way(3, 3, 0), 3);
        no(x, "31 itself alone", x.way(3, 3, 1), 8);
        no(x, "31 no way", x.way(0, 3, 0), 8);
        no(x, "31 no place", x.way(0, 2, -1), 8);
        no(x, "31 no place", x.way(0, 2, Integer.MAX_VALUE), 8);
        no(x, "31 no room", x.way(0, 4, -1), 2);
        due("32 parts", x.parts(), 2);
        x.cut(0);
        x.cut(2);
        due("32 parts", x.parts(), 3);
        x.string(3, 0);
        due("32 parts", x.parts(), 2);
    }

    private static void ahead() {
        BellPullHouse x = with(SMALL);
        due("33 none yet", x.loveIn(0, 0), 3);
        due("33 one", x.loveIn(0, 1), 1);
        due("33 two", x.loveIn(0, 2), 0);
        due("33 300", x.loveIn(1, 300), 9);
        no(x, "33 loveIn", x.loveIn(0, 301), 5);
        no(x, "33 loveIn", x.loveIn(0, -1), 5);
        no(x, "33 loveIn", x.loveIn(3, 301), 2);
        due("34 parts", x.partsIn(2), 1);
        due("34 parts", x.partsIn(0), 2);
        no(x, "34 never", x.partsIn(1), 8);
        no(x, "34 no such", x.partsIn(3), 2);
        due("35 silent already", x.silentIn(2), 0);
        no(x, "35 never", x.silentIn(0), 8);
        no(x, "35 no such", x.silentIn(-1), 2);
        due("36 hold", x.holdIn(0), 7);
        due("36 hold", x.holdIn(1), 3);
        due("36 hold", x.holdIn(300), 2);
        no(x, "36 holdIn", x.holdIn(301), 5);
        no(x, "36 holdIn", x.holdIn(-1), 5);
        due("33 all stays as it is", x.many(5), 0);
        due("33 all stays as it is", x.couple(0, 2), 3);
        x.damp(true);
        due("35 a to c is 4 now, 5 tomorrow", x.silentIn(0), 1);
        due("35 he is where she is", x.silentIn(1), -1);
        x.divorce(2);
        due("34 it is PARTED", x.partsIn(2), 0);
        BellPullHouse y = with("power 5; room a; room b; wire w from a to b; couple m he a she b love 9;");
        y.damp(true);
        due("35 length 6", y.silentIn(0), 5);
        due("34 nine days more", y.partsIn(0), 14);
        due("33 half the way down", y.loveIn(0, 10), 4);
    }

    private static void mends() {
        BellPullHouse x = with(SMALL);
        due("37 of none", x.mends(0), 0);
        due("37 they ring", x.mends(3), 0);
        due("38 they ring", x.mendSet(3), 0);
        no(x, "37 not by all", x.mends(4), 8);
        no(x, "38 not by all", x.mendSet(7), 8);
        no(x, "37 no such", x.mends(8), 5);
        no(x, "37 no such", x.mends(-1), 5);
        no(x, "38 no such", x.mendSet(8), 5);
        x.rule(3, 2);
        due("37 v: 1 and 1", x.mends(1), 1);
        due("38 v: the least", x.mendSet(1), 2);
        x.rule(3, 1);
        due("38 w alone", x.mendSet(1), 4);
        x.cut(0);
        x.cut(1);
        x.rule(3, 2);
        due("38 w alone, of what is cut and slack", x.mendSet(1), 4);
        x.move(2, 0, 1);
        due("37 z needs u", x.mends(4), 1);
        due("38 both: u and v", x.mendSet(5), 3);
        due("37 both", x.mends(5), 2);
        due("37 nothing is mended", x.many(7), 4);
    }

    private static void cuts() {
        BellPullHouse x = with(SMALL);
        due("39 two ways", x.cuts(0, 2), 2);
        due("40 the least", x.cutSet(0, 2), 5);
        due("39 not heard anyway", x.cuts(0, 3), 0);
        due("40 not heard anyway", x.cutSet(0, 3), 0);
        due("39 by c it is too far", x.cuts(0, 1), 1);
        due("40 u", x.cutSet(1, 0), 1);
        no(x, "39 itself", x.cuts(1, 1), 5);
        no(x, "39 no such", x.cuts(4, 4), 2);
        no(x, "40 itself", x.cutSet(1, 1), 5);
        no(x, "40 no such", x.cutSet(0, -1), 2);
        x.cut(0);
        due("40 whole ones alone", x.cutSet(0, 2), 4);
    }

    private static void hangs() {
        BellPullHouse x = with(SMALL);
        due("41 by either way", x.hangs(0), 0);
        due("41 he is there", x.hangs(1), 0);
        no(x, "41 not RUNG", x.hangs(2), 9);
        no(x, "41 no such", x.hangs(3), 2);
        due("42 none hangs: the first", x.vital(), 0);
        x.cut(0);
        due("41 w", x.hangs(0), 4);
        due("42 w", x.vital(), 2);
        x.divorce(0);
        due("42 PARTED or not", x.vital(), 2);
        x.cut(2);
        due("42 the first whole one", x.vital(), 1);
        x.cut(1);
        no(x, "42 no whole WIRES", x.vital(), 8);
    }

    private static void pulls() {
        BellPullHouse x = with(SMALL);
        due("43 a, b, c", x.pulled(7), 7);
        due("43 d", x.pulled(8), 8);
        due("43 none", x.pulled(0), 0);
        due("43 none", x.pulled(15), 0);
        no(x, "43 no such", x.pulled(16), 5);
        no(x, "43 no such", x.pulled(-1), 5);
        x.rule(3, 3);
        due("43 a", x.pulled(3), 1);
        due("43 b", x.pulled(7), 2);
        x.rule(3, 4);
        due("44 x answers y, z answers x", x.crossed(1), 5);
        due("44 none there", x.crossed(3), 0);
        no(x, "44 no such", x.crossed(4), 2);
        x.rule(3, 3);
        due("44 c is too far from a", x.crossed(0), 4);
        x.divorce(2);
        due("44 PARTED ones answer none", x.crossed(0), 0);
        due("44 x from c", x.crossed(2), 1);
    }

    private static void pairs() {
        BellPullHouse x = with(SMALL);
        due("45 x asks z first (0), then keeps her", x.pair(0), 2);
        due("45 y has his own", x.pair(1), 1);
        no(x, "45 z hears none", x.pair(2), 8);
        no(x, "45 no such", x.pair(3), 2);
        due("46 x alone", x.swapped(), 1);
        BellPullHouse y = with("power 9; room a; room b; room c; wire v from a to b; wire w from b to c slack 3;"
                + "couple m he a she c love 1; couple n he c she b love 1; couple o he b she c love 1;");
        // m asks b (1); n asks m's (0); o asks n's (0): she takes him, as m is farther; m asks c: m's has n (0),
        // o's has none and takes him.
        due("45 m", y.pair(0), 2);
        due("45 n", y.pair(1), 0);
        due("45 o", y.pair(2), 1);
        due("46 all", y.swapped(), 3);
        y.divorce(0);
        y.divorce(1);
        due("45 PARTED or not", y.pair(0), 2);
        BellPullHouse z = with("power 1; room a; room b; wire v from a to b;"
                + "couple m he a she b love 1; couple n he a she a love 1; couple o he b she a love 1;");
        z.move(2, 0, 0);
        // All are in a; she of n is the nearest, then she of o: m asks n's, n asks n's in vain, then o's,
        // o asks both in vain, then m's in b.
        due("45 as FAR: she keeps him", z.pair(0), 1);
        due("45 n", z.pair(1), 2);
        due("45 o", z.pair(2), 0);
    }

    private static void games() {
        BellPullHouse x = with(SMALL);
        due("47 no turn", x.game(0), 2);
        due("47 either way is left", x.game(1), 2);
        due("48 all as good: the first", x.moveOf(1), 0);
        due("47 two turns", x.game(2), 2);
        due("47 three turns: the wireman has w at 1", x.game(3), 2);
        no(x, "47 turns", x.game(4), 5);
        no(x, "47 turns", x.game(-1), 5);
        no(x, "48 turns", x.moveOf(0), 5);
        no(x, "48 turns", x.moveOf(4), 5);
        x.cut(0);
        due("47 w is cut", x.game(1), 1);
        due("48 w", x.moveOf(1), 2);
        due("47 w is mended", x.game(2), 2);
        due("48 the first", x.moveOf(2), 1);
        due("47 w is cut again", x.game(3), 1);
        due("47 nothing is done", x.many(7), 6);
        BellPullHouse y = with("room a; room b; wire v from a to b; wire w from a to b; couple m he a she b love 1;");
        due("47 one turn is too few", y.game(1), 1);
        due("47 the wireman mends", y.game(3), 1);
        y.cut(1);
        due("47 now it is enough", y.game(1), 0);
        due("48 v", y.moveOf(1), 0);
        y.cut(0);
        no(y, "48 none to cut", y.moveOf(3), 8);
        due("47 he mends, the mouse cuts", y.game(3), 0);
        due("47 he mends", y.game(2), 1);
    }

    private static void odds() {
        BellPullHouse x = with(SMALL);
        due("49 lasts", x.lasts(0), true);
        // Ways u-v and w, each wire stays by 12/16: 1 - (1 - 9/16)(1 - 3/4) = 57/64.
        due("49 top", x.top(), 57);
        due("49 bottom", x.bottom(), 64);
        due("49 he is there", x.lasts(1), true);
        due("49 1 by 1", x.top() * 10 + x.bottom(), 11);
        due("49 never", x.lasts(2), true);
        due("49 0 by 1", x.top() * 10 + x.bottom(), 1);
        no(x, "49 no such", x.lasts(3), 2);
        x.rule(4, 16);
        x.lasts(0);
        due("49 all is cut", x.top() * 10 + x.bottom(), 1);
        x.rule(4, 0);
        x.lasts(0);
        due("49 none is cut", x.top() * 10 + x.bottom(), 11);
        x.rule(4, 1);
        x.cut(2);
        x.lasts(0);
        due("49 u and v", x.top(), 225);
        due("49 u and v", x.bottom(), 256);
        BellPullHouse y = with("odds 1; room a; room b; couple m he a she b love 9;");
        for (int i = 0; i < 10; i++) {
            y.string(0, 1);
        }
        y.lasts(0);
        due("49 ten wires", y.top(), (1L << 40) - 1);
        due("49 ten wires", y.bottom(), 1L << 40);
        no(y, "50 no day yet", y.faith(0), 8);
        no(y, "50 no such", y.faith(1), 2);
        y.day(4);
        for (int i = 0; i < 10; i++) {
            y.cut(i);
        }
        y.day(2);
        due("50 faith", y.faith(0), true);
        due("50 4 of 6", y.top(), 2);
        due("50 4 of 6", y.bottom(), 3);
        BellPullHouse z = with("room a; room b; couple m he a she b love 9;");
        z.day(7);
        z.faith(0);
        due("50 0 by 1", z.top() * 10 + z.bottom(), 1);
    }

    private static void lives() {
        BellPullHouse x = with(SMALL, "damp; damp; dry; dry; mend u; mend v; cut w; cut w; mend w; cut w; day 2; when parted x; stop; end; any;");
        no(x, "51 seed", x.live(-1), 5);
        no(x, "51 seed", x.live(10000), 5);
        no(x, "52 none yet", x.lived(0), 8);
        no(x, "52 what", x.lived(5), 5);
        no(x, "52 what", x.lived(-1), 5);
        due("51 up to the stop", x.live(9999), 13);
        due("52 damp, dry, mend u, cut w", x.lived(0), 4);
        due("52 DAYS", x.lived(1), 2);
        due("52 x and z", x.lived(2), 2);
        due("52 w, twice", x.lived(3), 2);
        due("52 stop leaves nothing", x.lived(4), 0);
        due("51 it stays so", x.many(5), 2);
        due("51 it stays so", x.many(7), 3);
        due("51 it stays so", x.many(8), 2);
        feed(x, SMALL);
        x.house(SMALL.length());
        no(x, "51 no YEARS", x.live(0), 8);
        due("52 whatever came since", x.lived(0), 4);
        // Seed 0: s is 10859 (wire 1357 by 3: 1), then 29236 (3654 by 16: 6), odds 4: slack of v is 3.
        BellPullHouse y = with(SMALL, "any;");
        due("51 any", y.live(0), 1);
        due("51 any: slack", y.wire(1, 2), 3);
        due("52 none MISSED", y.lived(0), 0);
        y.rule(4, 7);
        due("51 any", y.live(0), 1);
        due("51 any: cut", y.wire(1, 3), 0);
        due("52 a cut", y.lived(3), 1);
        due("51 any of what is cut", y.live(0), 1);
        due("52 MISSED", y.lived(0), 1);
        due("52 no cut", y.lived(3), 0);
        y.mend(1);
        y.stretch(1, 9);
        y.rule(4, 6);
        y.live(0);
        due("52 SLACK above 9", y.lived(0), 1);
        due("51 9", y.wire(1, 2), 9);
        BellPullHouse one = with("odds 0; room a; room b; wire w from a to b;", "any;");
        due("51 any of one WIRE", one.live(3), 1);
        due("51 slack", one.wire(0, 2), 1);
        BellPullHouse z = with("room a;", "any;");
        due("51 any without WIRES", z.live(5), 1);
        due("52 MISSED", z.lived(0), 1);
        BellPullHouse v = with(SMALL, "when love x<4; when love x>2; when love x=3; mend v; end; end; end; when rung x; mend w; end;"
                + "when love x<3; cut u; end; when rung z; cut u; end; when parted x; cut u; end;");
        due("51 whens", v.live(1), 9);
        due("51 mended", v.wire(2, 2), 0);
        due("51 mended", v.wire(1, 2), 0);
        due("51 not cut", v.many(7), 7);
        // Both draws are made of what is cut: s of seed 7 is 31656 (3957 by 3: 0), 16675, then
        // 7068 (883 by 3: 1), 38367 (4795 by 16: 11).
        BellPullHouse u = with(SMALL, "cut u; any; any;");
        u.live(7);
        due("51 the second any is of v", u.wire(1, 2), 3);
        due("52 the first is MISSED", u.lived(0), 1);
    }

    private static void livesAreBounded() {
        BellPullHouse x = with(SMALL, "loop 99; dry; dry; end; loop 3; loop 99; end; end;");
        // 1 + 198 + 1 + 3.
        due("51 loops count as they are come to from ahead", x.live(0), 203);
        due("52 MISSED", x.lived(0), 198);
        due("52 nothing left", x.lived(4), 0);
        BellPullHouse y = with(SMALL, "loop 99; dry; dry; end; loop 50; dry; dry; end; stop;");
        due("51 1 + 198 + 1 + 100: just 300, then a stop", y.live(0), 300);
        due("52 a stop is left", y.lived(4), 1);
        BellPullHouse z = with(SMALL, "loop 99; dry; dry; end; loop 50; dry; dry; end; ");
        due("51 just 300", z.live(0), 300);
        due("52 nothing left", z.lived(4), 0);
        BellPullHouse v = with(SMALL, "loop 99; loop 99; loop 99; day 1; end; end; end;");
        due("51 300", v.live(0), 300);
        due("52 297 or so DAYS", v.lived(1), 295);
        due("52 left", v.lived(4), 1);
        BellPullHouse u = with(SMALL, "loop 99; dry; dry; end; loop 99; dry; end; dry; stop; cut u;");
        due("51 1 + 198 + 1 + 99 + 1", u.live(0), 300);
        due("52 left", u.lived(4), 1);
        BellPullHouse w = with(SMALL, "loop 99; dry; dry; end; loop 99; dry; end; stop; cut u;");
        due("51 stop is the 300th", w.live(0), 300);
        due("52 by stop, not by the 300", w.lived(4), 0);
    }

    private static void means() {
        BellPullHouse x = with(SMALL, "any; day 1;");
        no(x, "53 seed", x.mean(-1, 1), 5);
        no(x, "53 seed", x.mean(10000, 1), 5);
        no(x, "53 many", x.mean(0, 0), 5);
        no(x, "53 many", x.mean(0, 21), 5);
        no(x, "53 many", x.mean(0, Integer.MAX_VALUE), 5);
        no(x, "53 the last", x.mean(9981, 20), 5);
        due("53 the last", x.mean(9980, 20), true);
        x.mark();
        int sum = 0;
        for (int seed = 3; seed < 8; seed++) {
            x.live(seed);
            sum += x.many(10);
            x.back();
            x.mark();
        }
        due("53 mean", x.mean(3, 5), true);
        due("53 the same by live", x.top() * 5, sum * x.bottom());
        due("53 without a common divisor", x.bottom(), sum % 5 == 0 ? 1 : 5);
        due("53 all stays as it is", x.many(5), 0);
        due("53 all stays as it is", x.many(10), 13);
        x.live(7);
        int missed = x.lived(0);
        int days = x.lived(1);
        feed(x, "cut u; cut u; cut u;");
        x.years(20);
        x.mean(0, 20);
        due("53 what live told, too", x.lived(0), missed);
        due("53 what live told, too", x.lived(1), days);
        due("53 and the wires", x.wire(0, 3), x.many(7) & 1);
        BellPullHouse y = new BellPullHouse();
        no(y, "53 no YEARS", y.mean(0, 1), 8);
        no(y, "53 5 goes first", y.mean(0, 0), 5);
        y.years(0);
        due("53 none to love", y.mean(0, 3), true);
        due("53 0 by 1", y.top() * 10 + y.bottom(), 1);
    }

    private static void marks() {
        BellPullHouse x = with(SMALL, "damp; cut v;");
        due("54 mark", x.mark(), 1);
        x.tray(0, 0, 1);
        x.live(0);
        x.day(1);
        x.wed(2, 7);
        x.move(0, 0, 3);
        x.rule(3, 50);
        x.rule(4, 9);
        x.stretch(0, 5);
        due("54 mark", x.mark(), 2);
        feed(x, "room q; couple r he q she q love 4;");
        x.house(35);
        due("54 mark", x.mark(), 3);
        no(x, "54 a fourth", x.mark(), 7);
        x.divorce(0);
        x.lasts(0);
        due("55 back", x.back(), 2);
        due("55 love", x.couple(0, 2), 4);
        no(x, "55 no YEARS there", x.live(0), 8);
        due("55 back", x.back(), 1);
        due("55 the house ahead", x.many(0), 4);
        due("55 love", x.couple(2, 2), 7);
        due("55 power", x.many(3), 50);
        due("55 day", x.many(5), 1);
        due("55 damp", x.many(6), 1);
        due("55 far", x.far(0, 1), 6);
        due("55 answered", x.couple(1, 5), 1);
        due("55 its YEARS", x.live(0), 2);
        due("55 MISSED both", x.lived(0), 2);
        due("55 back", x.back(), 0);
        int[] many = {4, 3, 3, 4, 4, 0, 0, 7, 7, 3, 13};
        for (int i = 0; i < many.length; i++) {
            due("55 many " + i, x.many(i), many[i]);
        }
        due("55 room", x.couple(0, 0), 0);
        due("55 answered", x.couple(1, 5), 0);
        due("55 slack", x.wire(0, 2), 0);
        due("55 the TRAYS stay", x.read(0, 0), 0);
        due("55 the FRACTION stays", x.bottom(), 1);
        due("55 what live told stays", x.lived(0), 2);
        feed(x, "cut u; when rung x; end;");
        due("55 its NAMES", x.years(24), 2);
        no(x, "55 there is none", x.back(), 8);
        due("54 mark", x.mark(), 1);
    }
}
