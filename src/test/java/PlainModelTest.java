import java.util.ArrayList;
import java.util.Arrays;
import java.util.List;
import java.util.Random;

/**
 * Random runs of calls, each answer held against a second writing of the document that is as
 * plain as can be: one day at a time, ways by trying all, no state kept but what is told.
 */
public final class PlainModelTest {
    private static int wrong = 0;
    private static long calls = 0;

    public static void main(String[] args) {
        for (int seed = 0; seed < 1400 && wrong < 20; seed++) {
            new Run(seed).go();
        }
        System.out.println(calls + " calls held against the plain model, " + wrong + " unlike");
        if (wrong != 0) {
            System.exit(1);
        }
    }

    static final class Fault extends Exception {
        private static final long serialVersionUID = 1;
        final int kind;
        final int place;

        Fault(int kind, int place) {
            super(null, null, false, false);
            this.kind = kind;
            this.place = place;
        }
    }

    static final class Status extends Exception {
        private static final long serialVersionUID = 1;
        final int number;

        Status(int number) {
            super(null, null, false, false);
            this.number = number;
        }
    }

    static final class Wire {
        String name;
        int a;
        int b;
        int slack;
        boolean whole = true;

        Wire copy() {
            Wire w = new Wire();
            w.name = name;
            w.a = a;
            w.b = b;
            w.slack = slack;
            w.whole = whole;
            return w;
        }
    }

    static final class Couple {
        String name;
        int he;
        int she;
        int love;
        boolean holds = true;
        int own;
        int other;

        Couple copy() {
            Couple c = new Couple();
            c.name = name;
            c.he = he;
            c.she = she;
            c.love = love;
            c.holds = holds;
            c.own = own;
            c.other = other;
            return c;
        }
    }

    static final class Step {
        String word;
        int number;
        int thing;
        String test;
        char sign;
        List<Step> body;
    }

    static final class World {
        int power = 8;
        int odds = 2;
        List<String> rooms = new ArrayList<>();
        List<Wire> wires = new ArrayList<>();
        List<Couple> couples = new ArrayList<>();
        int day;
        boolean damp;
        List<Step> years;

        World copy() {
            World n = new World();
            n.power = power;
            n.odds = odds;
            n.rooms = new ArrayList<>(rooms);
            for (Wire w : wires) {
                n.wires.add(w.copy());
            }
            for (Couple c : couples) {
                n.couples.add(c.copy());
            }
            n.day = day;
            n.damp = damp;
            n.years = years;
            return n;
        }

        /** By trying every way without a room twice; -1 without one. */
        int far(int a, int b) {
            return walk(a, b, 1 << a);
        }

        private int walk(int a, int b, int seen) {
            if (a == b) {
                return 0;
            }
            int best = -1;
            for (Wire w : wires) {
                int next = w.a == a ? w.b : w.b == a ? w.a : -1;
                if (w.whole && next >= 0 && (seen >> next & 1) == 0) {
                    int rest = walk(next, b, seen | 1 << next);
                    if (rest >= 0 && (best < 0 || rest + 1 + w.slack < best)) {
                        best = rest + 1 + w.slack;
                    }
                }
            }
            return best;
        }

        boolean heard(int a, int b) {
            int f = far(a, b);
            return f >= 0 && f <= power;
        }

        boolean rung(int c) {
            return heard(couples.get(c).he, couples.get(c).she);
        }

        int countRung() {
            int n = 0;
            for (int c = 0; c < couples.size(); c++) {
                n += rung(c) ? 1 : 0;
            }
            return n;
        }

        /** All ways from a to b, as lists of rooms with the length at the end. */
        void ways(int a, int b, int seen, int length, List<Integer> sofar, List<int[]> out) {
            sofar.add(a);
            if (a == b) {
                int[] way = new int[sofar.size() + 1];
                for (int i = 0; i < sofar.size(); i++) {
                    way[i] = sofar.get(i);
                }
                way[sofar.size()] = length;
                out.add(way);
            } else {
                for (Wire w : wires) {
                    int next = w.a == a ? w.b : w.b == a ? w.a : -1;
                    if (w.whole && next >= 0 && (seen >> next & 1) == 0) {
                        ways(next, b, seen | 1 << next, length + 1 + w.slack, sofar, out);
                    }
                }
            }
            sofar.remove(sofar.size() - 1);
        }

        int answer(int c) {
            int she = couples.get(c).she;
            int least = Integer.MAX_VALUE;
            for (Couple m : couples) {
                if (m.holds && heard(m.he, she)) {
                    least = Math.min(least, far(m.he, she));
                }
            }
            if (least == Integer.MAX_VALUE) {
                return -1;
            }
            Couple own = couples.get(c);
            if (own.holds && far(own.he, she) == least) {
                return c;
            }
            for (int i = 0; i < couples.size(); i++) {
                if (couples.get(i).holds && far(couples.get(i).he, she) == least) {
                    return i;
                }
            }
            throw new IllegalStateException();
        }

        int oneDay() {
            int n = couples.size();
            int[] ans = new int[n];
            for (int c = 0; c < n; c++) {
                ans[c] = answer(c);
            }
            int parted = 0;
            for (int c = 0; c < n; c++) {
                Couple k = couples.get(c);
                if (!k.holds) {
                    continue;
                }
                if (ans[c] == c) {
                    k.love = Math.min(9, k.love + 1);
                    k.own++;
                } else if (ans[c] >= 0) {
                    k.love = Math.max(0, k.love - 2);
                    k.other++;
                } else {
                    k.love = Math.max(0, k.love - 1);
                }
            }
            for (int c = 0; c < n; c++) {
                Couple k = couples.get(c);
                if (k.holds && k.love == 0) {
                    k.holds = false;
                    parted |= 1 << c;
                }
            }
            if (damp) {
                for (Wire w : wires) {
                    if (w.whole) {
                        w.slack = Math.min(9, w.slack + 1);
                    }
                }
            }
            day++;
            return parted;
        }

        int love() {
            int sum = 0;
            for (Couple c : couples) {
                sum += c.love;
            }
            return sum;
        }

        World cutting(int set) {
            World n = copy();
            for (int w = 0; w < wires.size(); w++) {
                if ((set >> w & 1) != 0) {
                    n.wires.get(w).whole = false;
                }
            }
            return n;
        }

        World mending(int set) {
            World n = copy();
            for (int w = 0; w < wires.size(); w++) {
                if ((set >> w & 1) != 0) {
                    n.wires.get(w).whole = true;
                    n.wires.get(w).slack = 0;
                }
            }
            return n;
        }

        int wholeSet() {
            int set = 0;
            for (int w = 0; w < wires.size(); w++) {
                set |= wires.get(w).whole ? 1 << w : 0;
            }
            return set;
        }

        /** Without any pruning; what[0] becomes the first best move of this turn. */
        int game(int left, boolean mouse, int[] what) {
            if (left == 0) {
                return countRung();
            }
            int best = mouse ? 99 : -1;
            for (int w = 0; w <= wires.size(); w++) {
                World n = this;
                if (w < wires.size()) {
                    Wire x = wires.get(w);
                    if (mouse ? !x.whole : x.whole && x.slack == 0) {
                        continue;
                    }
                    n = mouse ? cutting(1 << w) : mending(1 << w);
                }
                int v = n.game(left - 1, !mouse, new int[1]);
                if (mouse ? v < best : v > best) {
                    best = v;
                    what[0] = w == wires.size() ? -1 : w;
                }
            }
            return best;
        }

        int[] pairs() {
            int n = couples.size();
            int[] has = new int[n];
            int[] taken = new int[n];
            Arrays.fill(has, -1);
            Arrays.fill(taken, -1);
            List<List<Integer>> lists = new ArrayList<>();
            for (int i = 0; i < n; i++) {
                int he = couples.get(i).he;
                List<Integer> list = new ArrayList<>();
                for (int j = 0; j < n; j++) {
                    if (heard(he, couples.get(j).she)) {
                        list.add(j);
                    }
                }
                list.sort((p, q) -> far(he, couples.get(p).she) - far(he, couples.get(q).she));
                lists.add(list);
            }
            boolean again = true;
            while (again) {
                again = false;
                for (int i = 0; i < n && !again; i++) {
                    if (has[i] < 0 && !lists.get(i).isEmpty()) {
                        again = true;
                        int j = lists.get(i).remove(0);
                        int she = couples.get(j).she;
                        if (taken[j] < 0) {
                            taken[j] = i;
                            has[i] = j;
                        } else if (far(couples.get(taken[j]).he, she) > far(couples.get(i).he, she)) {
                            has[taken[j]] = -1;
                            taken[j] = i;
                            has[i] = j;
                        }
                    }
                }
            }
            return has;
        }
    }

    static final class LifeOf {
        World w;
        int s;
        int steps;
        int missed;
        int days;
        int parted;
        int cuts;
        boolean left;
        boolean over;

        int draw(int n) {
            s = (s * 2971 + 10859) % 65536;
            return (s / 8) % n;
        }

        void all(List<Step> list) {
            for (Step t : list) {
                if (over) {
                    return;
                }
                if (steps == 300) {
                    left = true;
                    over = true;
                    return;
                }
                steps++;
                one(t);
            }
        }

        private void one(Step t) {
            switch (t.word) {
                case "day" -> {
                    if (w.day + t.number > 9999) {
                        missed++;
                    } else {
                        for (int i = 0; i < t.number; i++) {
                            parted += Integer.bitCount(w.oneDay());
                        }
                        days += t.number;
                    }
                }
                case "damp", "dry" -> {
                    boolean is = t.word.equals("damp");
                    missed += w.damp == is ? 1 : 0;
                    w.damp = is;
                }
                case "mend" -> {
                    Wire x = w.wires.get(t.thing);
                    if (x.whole && x.slack == 0) {
                        missed++;
                    }
                    x.whole = true;
                    x.slack = 0;
                }
                case "cut" -> cut(w.wires.get(t.thing));
                case "any" -> any();
                case "when" -> {
                    Couple c = w.couples.get(t.thing);
                    boolean so = switch (t.test) {
                        case "rung" -> w.rung(t.thing);
                        case "parted" -> !c.holds;
                        default -> t.sign == '<' ? c.love < t.number : t.sign == '>' ? c.love > t.number : c.love == t.number;
                    };
                    if (so) {
                        all(t.body);
                    }
                }
                case "loop" -> {
                    for (int i = 0; i < t.number && !over; i++) {
                        all(t.body);
                    }
                }
                case "stop" -> over = true;
                default -> throw new IllegalStateException(t.word);
            }
        }

        private void cut(Wire x) {
            if (x.whole) {
                cuts++;
            } else {
                missed++;
            }
            x.whole = false;
        }

        private void any() {
            if (w.wires.isEmpty()) {
                missed++;
                return;
            }
            Wire x = w.wires.get(draw(w.wires.size()));
            int d = draw(16);
            if (!x.whole) {
                missed++;
            } else if (d < w.odds) {
                cut(x);
            } else if (x.slack == 9) {
                missed++;
            } else {
                x.slack++;
            }
        }
    }

    static final class Token {
        final int place;
        final String text;

        Token(int place, String text) {
            this.place = place;
            this.text = text;
        }
    }

    /** Tokens are all made first; a place where none begins is the token "". The end is "$". */
    static final class Parser {
        static final List<String> KEYS = List.of("power", "odds", "room", "wire", "from", "to", "slack", "couple",
                "he", "she", "love", "day", "damp", "dry", "mend", "cut", "any", "when", "rung", "parted", "loop",
                "end", "stop");
        final List<Token> tokens = new ArrayList<>();
        int at;

        Parser(String s) {
            int i = 0;
            while (i < s.length()) {
                char c = s.charAt(i);
                int j = i + 1;
                if (c == ' ' || c == '\n') {
                    i++;
                    continue;
                }
                if (c >= 'a' && c <= 'z') {
                    while (j < s.length() && s.charAt(j) >= 'a' && s.charAt(j) <= 'z') {
                        j++;
                    }
                    tokens.add(new Token(i, s.substring(i, j)));
                } else if (c >= '0' && c <= '9') {
                    while (j < s.length() && s.charAt(j) >= '0' && s.charAt(j) <= '9') {
                        j++;
                    }
                    tokens.add(new Token(i, j - i > 4 ? "" : s.substring(i, j)));
                } else {
                    tokens.add(new Token(i, ";<>=".indexOf(c) >= 0 ? "" + c : ""));
                }
                i = j;
            }
            tokens.add(new Token(s.length(), "$"));
        }

        Token look() {
            return tokens.get(at);
        }

        Fault bad(int kind) {
            return new Fault(look().text.isEmpty() ? 1 : kind, look().place);
        }

        boolean is(String t) {
            return look().text.equals(t);
        }

        void must(String t) throws Fault {
            if (!is(t)) {
                throw bad(2);
            }
            at++;
        }

        int number(int low, int high) throws Fault {
            if (!look().text.matches("[0-9]+")) {
                throw bad(2);
            }
            int v = Integer.parseInt(look().text);
            if (v < low || v > high) {
                throw bad(4);
            }
            at++;
            return v;
        }

        String name() throws Fault {
            if (!look().text.matches("[a-z]{1,8}") || KEYS.contains(look().text)) {
                throw bad(2);
            }
            return look().text;
        }

        World house() throws Fault {
            World w = new World();
            List<String> told = new ArrayList<>();
            boolean power = false;
            boolean odds = false;
            while (!is("$")) {
                switch (look().text) {
                    case "power" -> {
                        if (power) {
                            throw bad(5);
                        }
                        power = true;
                        at++;
                        w.power = number(1, 99);
                    }
                    case "odds" -> {
                        if (odds) {
                            throw bad(5);
                        }
                        odds = true;
                        at++;
                        w.odds = number(0, 16);
                    }
                    case "room" -> {
                        if (w.rooms.size() == 8) {
                            throw bad(6);
                        }
                        at++;
                        w.rooms.add(fresh(told));
                    }
                    case "wire" -> {
                        if (w.wires.size() == 10) {
                            throw bad(6);
                        }
                        at++;
                        Wire x = new Wire();
                        x.name = fresh(told);
                        must("from");
                        x.a = room(w);
                        must("to");
                        name();
                        if (look().text.equals(w.rooms.get(x.a))) {
                            throw bad(5);
                        }
                        x.b = room(w);
                        if (is("slack")) {
                            at++;
                            x.slack = number(0, 9);
                        }
                        w.wires.add(x);
                    }
                    case "couple" -> {
                        if (w.couples.size() == 6) {
                            throw bad(6);
                        }
                        at++;
                        Couple c = new Couple();
                        c.name = fresh(told);
                        must("he");
                        c.he = room(w);
                        must("she");
                        c.she = room(w);
                        must("love");
                        c.love = number(1, 9);
                        w.couples.add(c);
                    }
                    default -> throw bad(2);
                }
                must(";");
            }
            return w;
        }

        private String fresh(List<String> told) throws Fault {
            String n = name();
            if (told.contains(n)) {
                throw bad(3);
            }
            told.add(n);
            at++;
            return n;
        }

        private int room(World w) throws Fault {
            int r = w.rooms.indexOf(name());
            if (r < 0) {
                throw bad(3);
            }
            at++;
            return r;
        }

        int count;

        List<Step> years(World w) throws Fault {
            List<Step> list = steps(w, 0);
            if (!is("$")) {
                throw bad(2);
            }
            return list;
        }

        private List<Step> steps(World w, int depth) throws Fault {
            List<Step> list = new ArrayList<>();
            while (List.of("day", "damp", "dry", "mend", "cut", "any", "when", "loop", "stop").contains(look().text)) {
                Step t = new Step();
                t.word = look().text;
                boolean opens = t.word.equals("when") || t.word.equals("loop");
                if (count == 30) {
                    throw bad(6);
                }
                if (opens && depth == 3) {
                    throw bad(7);
                }
                count++;
                at++;
                rest(w, t);
                must(";");
                if (opens) {
                    t.body = steps(w, depth + 1);
                    must("end");
                    must(";");
                }
                list.add(t);
            }
            return list;
        }

        private void rest(World w, Step t) throws Fault {
            switch (t.word) {
                case "day" -> t.number = number(1, 40);
                case "loop" -> t.number = number(1, 99);
                case "mend", "cut" -> {
                    t.thing = -1;
                    for (int i = 0; i < w.wires.size(); i++) {
                        t.thing = name().equals(w.wires.get(i).name) ? i : t.thing;
                    }
                    name();
                    if (t.thing < 0) {
                        throw bad(3);
                    }
                    at++;
                }
                case "when" -> {
                    t.test = look().text;
                    if (!List.of("rung", "love", "parted").contains(t.test)) {
                        throw bad(2);
                    }
                    at++;
                    t.thing = -1;
                    name();
                    for (int i = 0; i < w.couples.size(); i++) {
                        t.thing = name().equals(w.couples.get(i).name) ? i : t.thing;
                    }
                    if (t.thing < 0) {
                        throw bad(3);
                    }
                    at++;
                    if (t.test.equals("love")) {
                        if (!is("<") && !is(">") && !is("=")) {
                            throw bad(2);
                        }
                        t.sign = look().text.charAt(0);
                        at++;
                        t.number = number(0, 9);
                    }
                }
                default -> { }
            }
        }
    }

    /** The whole object, as the document tells it. */
    static final class Plain {
        World w = new World();
        int status;
        long top = 0;
        long bottom = 1;
        String tape = "";
        int faultKind = -1;
        int faultPlace = -1;
        List<World> marks = new ArrayList<>();
        LifeOf lived;
        long[][] trays = new long[4][];
        int[] sorts = new int[4];

        long room(int... rs) throws Status {
            for (int r : rs) {
                if (r < 0 || r >= w.rooms.size()) {
                    throw new Status(2);
                }
            }
            return 0;
        }

        Wire wire(int i) throws Status {
            if (i < 0 || i >= w.wires.size()) {
                throw new Status(2);
            }
            return w.wires.get(i);
        }

        Couple couple(int i) throws Status {
            if (i < 0 || i >= w.couples.size()) {
                throw new Status(2);
            }
            return w.couples.get(i);
        }

        static void need(boolean is, int otherwise) throws Status {
            if (!is) {
                throw new Status(otherwise);
            }
        }

        long call(String f, int[] a) {
            switch (f) {
                case "status":
                    return status;
                case "top":
                    return top;
                case "bottom":
                    return bottom;
                case "fault":
                    return a[0] == 0 ? faultKind : a[0] == 1 ? faultPlace : -1;
                case "feed":
                    if (tape.length() + 20 > 900) {
                        return -1;
                    }
                    StringBuilder more = new StringBuilder(tape);
                    for (int v : a) {
                        for (int i = 3; i >= 0; i--) {
                            more.append((char) (v >>> 8 * i & 255));
                        }
                    }
                    tape = more.toString();
                    return tape.length();
                default:
            }
            boolean yesNo = List.of("tray", "write", "pour", "damp", "stretch", "wed", "rule", "lasts", "faith", "mean").contains(f);
            try {
                long v = one(f, a);
                status = 0;
                return yesNo ? 1 : v;
            } catch (Status s) {
                status = s.number;
                return yesNo ? 0 : -1;
            }
        }

        private long one(String f, int[] a) throws Status {
            switch (f) {
                case "tray", "write", "read", "pour", "copyLove":
                    return trays(f, a);
                case "house", "years":
                    return text(f, a[0]);
                case "many", "wire", "couple":
                    return tells(f, a);
                case "day", "damp", "cut", "mend", "stretch", "string", "move", "wed", "divorce", "rule":
                    return does(f, a);
                case "live", "lived", "mean":
                    return lives(f, a);
                case "mark":
                    need(marks.size() < 3, 7);
                    marks.add(w.copy());
                    return marks.size();
                case "back":
                    need(!marks.isEmpty(), 8);
                    w = marks.remove(marks.size() - 1);
                    return marks.size();
                default:
                    return asks(f, a);
            }
        }

        private long trays(String f, int[] a) throws Status {
            need(a[0] >= 0 && a[0] < 4, 1);
            if (f.equals("tray")) {
                need(a[1] >= 0 && a[1] < 4, 1);
                need(a[2] <= 60, 5);
                need(a[2] >= 0, 6);
                trays[a[0]] = new long[a[2]];
                sorts[a[0]] = a[1];
                return 1;
            }
            if (f.equals("pour")) {
                need(a[2] >= 0 && a[2] < 4, 1);
                need(trays[a[0]] != null && trays[a[2]] != null, 3);
                need(sorts[a[0]] == sorts[a[2]], 11);
                need(a[4] >= 0, 6);
                need(a[1] >= 0 && a[3] >= 0 && (long) a[1] + a[4] <= trays[a[0]].length
                        && (long) a[3] + a[4] <= trays[a[2]].length, 4);
                long[] were = trays[a[0]].clone();
                for (int i = 0; i < a[4]; i++) {
                    trays[a[2]][a[3] + i] = were[a[1] + i];
                }
                return 1;
            }
            need(trays[a[0]] != null, 3);
            if (f.equals("copyLove")) {
                need(w.couples.size() <= trays[a[0]].length, 4);
                for (int i = 0; i < w.couples.size(); i++) {
                    trays[a[0]][i] = w.couples.get(i).love;
                }
                return w.couples.size();
            }
            need(a[1] >= 0 && a[1] < trays[a[0]].length, 4);
            if (f.equals("read")) {
                return trays[a[0]][a[1]];
            }
            long v = (long) a[2] * 0x100000001L;
            int away = 64 - (8 << sorts[a[0]]);
            trays[a[0]][a[1]] = v << away >> away;
            return 1;
        }

        private long text(String f, int n) throws Status {
            need(n >= 0 && n <= tape.length() && (f.equals("house") || n <= 300), 5);
            Parser p = new Parser(tape.substring(0, n));
            tape = "";
            try {
                long many;
                if (f.equals("house")) {
                    w = p.house();
                    many = w.couples.size();
                } else {
                    w.years = p.years(w);
                    many = p.count;
                }
                faultKind = 0;
                faultPlace = -1;
                return many;
            } catch (Fault x) {
                faultKind = x.kind;
                faultPlace = x.place;
                throw new Status(10);
            }
        }

        private long tells(String f, int[] a) throws Status {
            if (f.equals("wire")) {
                Wire x = wire(a[0]);
                need(a[1] >= 0 && a[1] < 4, 5);
                return new int[] {x.a, x.b, x.slack, x.whole ? 1 : 0}[a[1]];
            }
            if (f.equals("couple")) {
                Couple c = couple(a[0]);
                need(a[1] >= 0 && a[1] < 7, 5);
                return new int[] {c.he, c.she, c.love, c.holds ? 1 : 0, w.rung(a[0]) ? 1 : 0, c.own, c.other}[a[1]];
            }
            need(a[0] >= 0 && a[0] < 11, 5);
            int holds = 0;
            int rung = 0;
            for (int c = 0; c < w.couples.size(); c++) {
                holds |= w.couples.get(c).holds ? 1 << c : 0;
                rung |= w.rung(c) ? 1 << c : 0;
            }
            return new int[] {w.rooms.size(), w.wires.size(), w.couples.size(), w.power, w.odds, w.day,
                w.damp ? 1 : 0, w.wholeSet(), holds, rung, w.love()}[a[0]];
        }

        private long does(String f, int[] a) throws Status {
            switch (f) {
                case "day": {
                    need(a[0] >= 1 && a[0] <= 99, 5);
                    need(w.day + a[0] <= 9999, 7);
                    int parted = 0;
                    for (int i = 0; i < a[0]; i++) {
                        parted |= w.oneDay();
                    }
                    return parted;
                }
                case "damp":
                    need(w.damp != (a[0] != 0), 9);
                    w.damp = a[0] != 0;
                    return 1;
                case "cut": {
                    Wire x = wire(a[0]);
                    need(x.whole, 9);
                    x.whole = false;
                    return x.slack;
                }
                case "mend": {
                    Wire x = wire(a[0]);
                    need(!x.whole || x.slack > 0, 9);
                    int was = x.slack;
                    x.whole = true;
                    x.slack = 0;
                    return was;
                }
                case "stretch": {
                    Wire x = wire(a[0]);
                    need(a[1] >= 0 && a[1] <= 9, 5);
                    x.slack = a[1];
                    return 1;
                }
                case "string": {
                    room(a[0], a[1]);
                    need(a[0] != a[1], 5);
                    need(w.wires.size() < 10, 7);
                    Wire x = new Wire();
                    x.a = a[0];
                    x.b = a[1];
                    w.wires.add(x);
                    return w.wires.size() - 1;
                }
                case "move": {
                    Couple c = couple(a[0]);
                    room(a[2]);
                    need(a[1] == 0 || a[1] == 1, 5);
                    int was = a[1] == 0 ? c.he : c.she;
                    need(was != a[2], 9);
                    if (a[1] == 0) {
                        c.he = a[2];
                    } else {
                        c.she = a[2];
                    }
                    return was;
                }
                case "wed": {
                    Couple c = couple(a[0]);
                    need(a[1] >= 1 && a[1] <= 9, 5);
                    c.love = a[1];
                    c.holds = true;
                    return 1;
                }
                case "divorce": {
                    Couple c = couple(a[0]);
                    need(c.holds, 9);
                    int was = c.love;
                    c.love = 0;
                    c.holds = false;
                    return was;
                }
                default:
                    need(a[0] == 3 && a[1] >= 1 && a[1] <= 99 || a[0] == 4 && a[1] >= 0 && a[1] <= 16, 5);
                    if (a[0] == 3) {
                        w.power = a[1];
                    } else {
                        w.odds = a[1];
                    }
                    return 1;
            }
        }

        private long lives(String f, int[] a) throws Status {
            if (f.equals("lived")) {
                need(a[0] >= 0 && a[0] <= 4, 5);
                need(lived != null, 8);
                return new int[] {lived.missed, lived.days, lived.parted, lived.cuts, lived.left ? 1 : 0}[a[0]];
            }
            need(a[0] >= 0 && a[0] <= 9999, 5);
            if (f.equals("mean")) {
                need(a[1] >= 1 && a[1] <= 20 && a[0] + a[1] - 1 <= 9999, 5);
            }
            need(w.years != null, 8);
            long sum = 0;
            for (int i = 0; i < (f.equals("mean") ? a[1] : 1); i++) {
                LifeOf l = new LifeOf();
                l.w = f.equals("mean") ? w.copy() : w;
                l.s = a[0] + i;
                l.all(w.years);
                sum += l.w.love();
                if (f.equals("live")) {
                    lived = l;
                    return l.steps;
                }
            }
            fraction(sum, a[1]);
            return 1;
        }

        private void fraction(long t, long b) {
            java.math.BigInteger g = java.math.BigInteger.valueOf(t).gcd(java.math.BigInteger.valueOf(b));
            top = t / g.longValue();
            bottom = b / g.longValue();
        }

        private long asks(String f, int[] a) throws Status {
            switch (f) {
                case "far":
                    room(a[0], a[1]);
                    need(w.far(a[0], a[1]) >= 0, 8);
                    return w.far(a[0], a[1]);
                case "heard":
                    room(a[0]);
                    return hears(a[0]);
                case "rings": {
                    int he = couple(a[0]).he;
                    int set = 0;
                    for (int c = 0; c < w.couples.size(); c++) {
                        set |= w.heard(he, w.couples.get(c).she) ? 1 << c : 0;
                    }
                    return set;
                }
                case "answers":
                    couple(a[0]);
                    need(w.answer(a[0]) >= 0, 8);
                    need(couple(a[0]).holds, 9);
                    return w.answer(a[0]);
                case "way": {
                    room(a[0], a[1]);
                    List<int[]> ways = new ArrayList<>();
                    w.ways(a[0], a[1], 1 << a[0], 0, new ArrayList<>(), ways);
                    need(!ways.isEmpty(), 8);
                    ways.sort((p, q) -> p[p.length - 1] != q[q.length - 1] ? p[p.length - 1] - q[q.length - 1]
                            : Arrays.compare(p, 0, p.length - 1, q, 0, q.length - 1));
                    need(a[2] >= 0 && a[2] < ways.get(0).length - 1, 8);
                    return ways.get(0)[a[2]];
                }
                case "parts": {
                    int n = 0;
                    for (int r = 0; r < w.rooms.size(); r++) {
                        boolean first = true;
                        for (int q = 0; q < r; q++) {
                            first &= w.far(q, r) < 0;
                        }
                        n += first ? 1 : 0;
                    }
                    return n;
                }
                case "loveIn": {
                    couple(a[0]);
                    return ahead(a[1]).couples.get(a[0]).love;
                }
                case "partsIn", "silentIn": {
                    couple(a[0]);
                    World n = w.copy();
                    for (int d = 0; d <= 300; d++) {
                        if (f.equals("partsIn") ? !n.couples.get(a[0]).holds : !n.rung(a[0])) {
                            return d;
                        }
                        n.oneDay();
                    }
                    throw new Status(8);
                }
                case "holdIn": {
                    World n = ahead(a[0]);
                    int set = 0;
                    for (int c = 0; c < n.couples.size(); c++) {
                        set |= n.couples.get(c).holds ? 1 << c : 0;
                    }
                    return set;
                }
                default:
                    return wiresAndGames(f, a);
            }
        }

        private int hears(int room) {
            int set = 0;
            for (int r = 0; r < w.rooms.size(); r++) {
                set |= w.heard(room, r) ? 1 << r : 0;
            }
            return set;
        }

        private World ahead(int days) throws Status {
            need(days >= 0 && days <= 300, 5);
            World n = w.copy();
            for (int d = 0; d < days; d++) {
                n.oneDay();
            }
            return n;
        }

        private static long better(long best, int set) {
            return best < 0 || Integer.bitCount(set) < Long.bitCount(best) ? set : best;
        }

        private long wiresAndGames(String f, int[] a) throws Status {
            int all = 1 << w.wires.size();
            switch (f) {
                case "mends", "mendSet": {
                    need(a[0] >= 0 && a[0] < 1 << w.couples.size(), 5);
                    long best = -1;
                    for (int set = 0; set < all; set++) {
                        World n = w.mending(set);
                        boolean ok = true;
                        for (int c = 0; c < w.couples.size(); c++) {
                            ok &= (a[0] >> c & 1) == 0 || n.rung(c);
                        }
                        best = ok ? better(best, set) : best;
                    }
                    need(best >= 0, 8);
                    return f.equals("mends") ? Long.bitCount(best) : best;
                }
                case "cuts", "cutSet": {
                    room(a[0], a[1]);
                    need(a[0] != a[1], 5);
                    long best = -1;
                    for (int set = 0; set < all; set++) {
                        if ((set & ~w.wholeSet()) == 0 && !w.cutting(set).heard(a[0], a[1])) {
                            best = better(best, set);
                        }
                    }
                    return f.equals("cuts") ? Long.bitCount(best) : best;
                }
                case "hangs":
                    couple(a[0]);
                    need(w.rung(a[0]), 9);
                    return hangs(a[0]);
                case "vital": {
                    int best = -1;
                    int most = -1;
                    for (int x = 0; x < w.wires.size(); x++) {
                        int n = 0;
                        for (int c = 0; c < w.couples.size(); c++) {
                            n += w.rung(c) && (hangs(c) >> x & 1) != 0 ? 1 : 0;
                        }
                        if (w.wires.get(x).whole && n > most) {
                            most = n;
                            best = x;
                        }
                    }
                    need(best >= 0, 8);
                    return best;
                }
                case "pulled": {
                    need(a[0] >= 0 && a[0] < 1 << w.rooms.size(), 5);
                    int set = 0;
                    for (int r = 0; r < w.rooms.size(); r++) {
                        set |= hears(r) == a[0] ? 1 << r : 0;
                    }
                    return set;
                }
                case "crossed": {
                    room(a[0]);
                    int set = 0;
                    for (int c = 0; c < w.couples.size(); c++) {
                        Couple k = w.couples.get(c);
                        boolean cross = k.holds && w.answer(c) >= 0 && w.answer(c) != c;
                        set |= cross && w.heard(a[0], k.she) ? 1 << c : 0;
                    }
                    return set;
                }
                case "pair":
                    couple(a[0]);
                    need(w.pairs()[a[0]] >= 0, 8);
                    return w.pairs()[a[0]];
                case "swapped": {
                    int n = 0;
                    int[] p = w.pairs();
                    for (int c = 0; c < p.length; c++) {
                        n += p[c] >= 0 && p[c] != c ? 1 : 0;
                    }
                    return n;
                }
                case "game":
                    need(a[0] >= 0 && a[0] <= 3, 5);
                    return w.game(a[0], true, new int[1]);
                case "moveOf": {
                    need(a[0] >= 1 && a[0] <= 3, 5);
                    int[] what = new int[1];
                    w.game(a[0], true, what);
                    need(what[0] >= 0, 8);
                    return what[0];
                }
                case "lasts": {
                    couple(a[0]);
                    long t = 0;
                    long b = 1;
                    int whole = w.wholeSet();
                    for (int i = 0; i < Integer.bitCount(whole); i++) {
                        b *= 16;
                    }
                    for (int set = 0; set < all; set++) {
                        if ((set & ~whole) == 0 && w.cutting(set).rung(a[0])) {
                            long p = 1;
                            for (int x = 0; x < w.wires.size(); x++) {
                                if ((whole >> x & 1) != 0) {
                                    p *= (set >> x & 1) != 0 ? w.odds : 16 - w.odds;
                                }
                            }
                            t += p;
                        }
                    }
                    fraction(t, b);
                    return 1;
                }
                case "faith":
                    couple(a[0]);
                    need(w.day > 0, 8);
                    fraction(couple(a[0]).own, w.day);
                    return 1;
                default:
                    throw new IllegalStateException(f);
            }
        }

        private int hangs(int c) {
            int set = 0;
            for (int x = 0; x < w.wires.size(); x++) {
                set |= w.wires.get(x).whole && !w.cutting(1 << x).rung(c) ? 1 << x : 0;
            }
            return set;
        }
    }

    /** One object, one model, up to 512 calls; what was done stands in a list for the telling. */
    static final class Run {
        final int seed;
        final Random r;
        final BellPullHouse x = new BellPullHouse();
        final Plain p = new Plain();
        final StringBuilder log = new StringBuilder();
        int made = 0;
        final List<String> names = new ArrayList<>();

        Run(int seed) {
            this.seed = seed;
            r = new Random(seed);
        }

        void go() {
            while (made < 440) {
                int before = wrong;
                text(true);
                int n = 10 + r.nextInt(120);
                for (int i = 0; i < n && made < 500 && wrong == before; i++) {
                    some();
                }
                if (wrong != before) {
                    return;
                }
            }
        }

        int upTo(int n) {
            int k = r.nextInt(40);
            return k == 0 ? -1 : k == 1 ? n : k == 2 ? Integer.MAX_VALUE : k == 3 ? Integer.MIN_VALUE
                : n <= 0 ? 0 : r.nextInt(n);
        }

        void text(boolean house) {
            String s = house ? houseText() : yearsText();
            if (r.nextInt(4) == 0) {
                s = hurt(s);
            }
            int n = Math.min(s.length(), 900);
            if (!house && r.nextInt(20) > 0) {
                n = Math.min(300, n);
            }
            for (int i = 0; i < n; i += 20) {
                int[] five = new int[5];
                for (int j = 0; j < 20; j++) {
                    five[j / 4] = five[j / 4] << 8 | (i + j < s.length() ? s.charAt(i + j) & 255 : ' ');
                }
                check("feed", five);
            }
            log.append(s.substring(0, n)).append('\n');
            check(house ? "house" : "years", n + (r.nextInt(60) == 0 ? r.nextInt(60) - 30 : 0));
            check("fault", 0);
            check("fault", 1);
        }

        String word() {
            int n = 1 + r.nextInt(r.nextInt(6) == 0 ? 8 : 2);
            StringBuilder b = new StringBuilder();
            for (int i = 0; i < n; i++) {
                b.append((char) ('a' + r.nextInt(26)));
            }
            return b.toString();
        }

        String fresh() {
            for (int i = 0; i < 100; i++) {
                String n = word();
                if (!names.contains(n) && !Parser.KEYS.contains(n)) {
                    names.add(n);
                    return n;
                }
            }
            return "q";
        }

        String blank() {
            return r.nextInt(5) == 0 ? "\n" : " ";
        }

        String houseText() {
            names.clear();
            StringBuilder b = new StringBuilder();
            if (r.nextInt(3) > 0) {
                b.append("power").append(blank()).append(1 + r.nextInt(r.nextInt(4) == 0 ? 99 : 12)).append(';');
            }
            int rooms = r.nextInt(10) == 0 ? r.nextInt(10) : 2 + r.nextInt(7);
            List<String> rs = new ArrayList<>();
            for (int i = 0; i < rooms; i++) {
                String n = fresh();
                rs.add(n);
                b.append("room ").append(n).append(" ;");
            }
            if (r.nextInt(3) > 0) {
                b.append("odds ").append(r.nextInt(17)).append(";");
            }
            int wires = rooms < 2 ? 0 : r.nextInt(4) == 0 ? r.nextInt(12) : 3 + r.nextInt(8);
            for (int i = 0; i < wires; i++) {
                int u = r.nextInt(rooms);
                int v = r.nextInt(60) == 0 ? u : (u + 1 + r.nextInt(rooms - 1)) % rooms;
                b.append("wire ").append(fresh()).append(" from ").append(rs.get(u)).append(" to ").append(rs.get(v));
                if (r.nextInt(2) == 0) {
                    b.append(" slack ").append(r.nextInt(r.nextInt(3) == 0 ? 10 : 3));
                }
                b.append(";");
            }
            int couples = rooms < 1 ? 0 : r.nextInt(12) == 0 ? r.nextInt(8) : 1 + r.nextInt(6);
            for (int i = 0; i < couples; i++) {
                b.append("couple ").append(fresh()).append(" he ").append(rs.get(r.nextInt(rooms))).append(" she ");
                b.append(rs.get(r.nextInt(rooms))).append(" love ").append(1 + r.nextInt(9)).append(";").append(blank());
            }
            return b.toString();
        }

        String hurt(String s) {
            StringBuilder b = new StringBuilder(s);
            int times = 1 + r.nextInt(2);
            for (int i = 0; i < times && b.length() > 0; i++) {
                int at = r.nextInt(b.length());
                switch (r.nextInt(6)) {
                    case 0 -> b.deleteCharAt(at);
                    case 1 -> b.insert(at, " ;<>=a19!\n\t".charAt(r.nextInt(11)));
                    case 2 -> b.setCharAt(at, (char) r.nextInt(256));
                    case 3 -> b.insert(at, Parser.KEYS.get(r.nextInt(23)));
                    case 4 -> b.setLength(at);
                    default -> {
                        String w = Parser.KEYS.get(r.nextInt(23));
                        b.insert(at, " " + w + " ");
                    }
                }
            }
            return b.toString();
        }

        String aName(boolean wire) {
            if (r.nextInt(25) == 0 && !names.isEmpty()) {
                return names.get(r.nextInt(names.size()));
            }
            List<String> of = new ArrayList<>();
            if (wire) {
                for (Wire w : p.w.wires) {
                    if (w.name != null) {
                        of.add(w.name);
                    }
                }
            } else {
                for (Couple c : p.w.couples) {
                    of.add(c.name);
                }
            }
            return of.isEmpty() ? "zz" : of.get(r.nextInt(of.size()));
        }

        String yearsText() {
            StringBuilder b = new StringBuilder();
            int depth = 0;
            int n = r.nextInt(30) == 0 ? 34 : r.nextInt(16);
            boolean plain = n == 34;
            for (int i = 0; i < n; i++) {
                int k = plain ? 4 + r.nextInt(3) : r.nextInt(12);
                switch (k) {
                    case 0, 1 -> b.append("day ").append(1 + r.nextInt(r.nextInt(2) == 0 ? 40 : 3)).append(";");
                    case 2 -> b.append("mend ").append(aName(true)).append(";");
                    case 3 -> b.append("cut ").append(aName(true)).append(";");
                    case 4 -> b.append("damp;");
                    case 5 -> b.append("dry;");
                    case 6, 7 -> b.append("any;");
                    case 8 -> {
                        b.append("loop ").append(1 + r.nextInt(r.nextInt(3) == 0 ? 99 : 5)).append(";");
                        depth++;
                    }
                    case 9 -> {
                        b.append("when ").append(r.nextBoolean() ? "rung " : "parted ").append(aName(false)).append(";");
                        depth++;
                    }
                    case 10 -> {
                        b.append("when love ").append(aName(false)).append(" ").append("<>=".charAt(r.nextInt(3)));
                        b.append(r.nextInt(10)).append(";");
                        depth++;
                    }
                    default -> b.append(r.nextInt(3) == 0 ? "stop;" : "day 1;");
                }
                while (depth > 0 && (depth > 2 && r.nextInt(30) > 0 || r.nextInt(3) == 0)) {
                    b.append(" end;");
                    depth--;
                }
            }
            for (; depth > 0; depth--) {
                b.append(" end;");
            }
            return b.toString();
        }

        void some() {
            int rooms = p.w.rooms.size();
            int wires = p.w.wires.size();
            int couples = p.w.couples.size();
            switch (r.nextInt(49)) {
                case 0 -> check("tray", upTo(4), upTo(4), r.nextInt(10) == 0 ? r.nextInt(70) : upTo(12));
                case 1 -> check("write", upTo(4), upTo(8), r.nextInt());
                case 2 -> check("read", upTo(4), upTo(8));
                case 3 -> check("pour", upTo(4), upTo(5), upTo(4), upTo(5), upTo(5));
                case 4 -> check("copyLove", upTo(4));
                case 5, 6 -> check("many", upTo(11));
                case 7 -> check("wire", upTo(wires), upTo(4));
                case 8 -> check("couple", upTo(couples), upTo(7));
                case 9 -> check("day", r.nextInt(10) == 0 ? upTo(102) : 1 + r.nextInt(4));
                case 10 -> check("damp", r.nextInt(2));
                case 11 -> check("cut", upTo(wires));
                case 12 -> check("mend", upTo(wires));
                case 13 -> check("stretch", upTo(wires), upTo(10));
                case 14 -> check("string", upTo(rooms), upTo(rooms));
                case 15 -> check("move", upTo(couples), upTo(2), upTo(rooms));
                case 16 -> check("wed", upTo(couples), upTo(10));
                case 17 -> check("divorce", upTo(couples));
                case 18 -> check("rule", 3 + r.nextInt(2), upTo(r.nextInt(4) == 0 ? 101 : 17));
                case 19 -> check("far", upTo(rooms), upTo(rooms));
                case 20 -> check("heard", upTo(rooms));
                case 21 -> check("rings", upTo(couples));
                case 22 -> check("answers", upTo(couples));
                case 23 -> check("way", upTo(rooms), upTo(rooms), upTo(5));
                case 24 -> check("parts");
                case 25 -> check("loveIn", upTo(couples), r.nextInt(3) == 0 ? upTo(301) : r.nextInt(9));
                case 26 -> check("partsIn", upTo(couples));
                case 27 -> check("silentIn", upTo(couples));
                case 28 -> check("holdIn", r.nextInt(3) == 0 ? upTo(301) : r.nextInt(9));
                case 29 -> check("mends", upTo(1 << couples));
                case 30 -> check("mendSet", upTo(1 << couples));
                case 31 -> check("cuts", upTo(rooms), upTo(rooms));
                case 32 -> check("cutSet", upTo(rooms), upTo(rooms));
                case 33 -> check("hangs", upTo(couples));
                case 34 -> check("vital");
                case 35 -> check("pulled", r.nextBoolean() && rooms > 0 ? p.hears(r.nextInt(rooms)) : upTo(1 << rooms));
                case 36 -> check("crossed", upTo(rooms));
                case 37 -> check("pair", upTo(couples));
                case 38 -> check("swapped");
                case 39 -> check("game", r.nextInt(6) == 0 ? upTo(4) : r.nextInt(3));
                case 40 -> check("moveOf", r.nextInt(6) == 0 ? upTo(4) : r.nextInt(3));
                case 41 -> {
                    check("lasts", upTo(couples));
                    check("top");
                    check("bottom");
                }
                case 42 -> {
                    check("faith", upTo(couples));
                    check("top");
                    check("bottom");
                }
                case 43 -> {
                    text(false);
                    check("live", upTo(10000));
                }
                case 44 -> check("lived", upTo(5));
                case 45 -> {
                    if (r.nextInt(3) == 0) {
                        check("mean", upTo(10000), r.nextInt(4) == 0 ? upTo(21) : 1 + r.nextInt(3));
                        check("top");
                        check("bottom");
                    }
                }
                case 46 -> check("mark");
                case 47 -> check("back");
                default -> check("live", r.nextInt(10000));
            }
        }

        void check(String f, int... a) {
            // Each check makes two calls, and what an object answers behind its 512th is free.
            if (made > 510) {
                return;
            }
            long due = p.call(f, a);
            long got;
            try {
                got = real(f, a);
            } catch (RuntimeException e) {
                e.printStackTrace(System.out);
                got = Long.MIN_VALUE;
            }
            made += 2;
            calls++;
            log.append(f).append(Arrays.toString(a)).append(" -> ").append(got).append('\n');
            if (got != due || x.status() != p.status) {
                wrong++;
                System.out.println("seed " + seed + ": " + f + Arrays.toString(a) + " answered " + got + ", STATUS "
                        + x.status() + "; due is " + due + ", STATUS " + p.status);
                if (wrong == 1) {
                    System.out.println(log);
                }
            }
        }

        private static long bit(boolean b) {
            return b ? 1 : 0;
        }

        long real(String f, int[] a) {
            return switch (f) {
                case "top" -> x.top();
                case "bottom" -> x.bottom();
                case "tray" -> bit(x.tray(a[0], a[1], a[2]));
                case "write" -> bit(x.write(a[0], a[1], (long) a[2] * 0x100000001L));
                case "read" -> x.read(a[0], a[1]);
                case "pour" -> bit(x.pour(a[0], a[1], a[2], a[3], a[4]));
                case "feed" -> x.feed(a[0], a[1], a[2], a[3], a[4]);
                case "house" -> x.house(a[0]);
                case "years" -> x.years(a[0]);
                case "fault" -> x.fault(a[0]);
                case "many" -> x.many(a[0]);
                case "wire" -> x.wire(a[0], a[1]);
                case "couple" -> x.couple(a[0], a[1]);
                case "copyLove" -> x.copyLove(a[0]);
                case "day" -> x.day(a[0]);
                case "damp" -> bit(x.damp(a[0] != 0));
                case "cut" -> x.cut(a[0]);
                case "mend" -> x.mend(a[0]);
                case "stretch" -> bit(x.stretch(a[0], a[1]));
                case "string" -> x.string(a[0], a[1]);
                case "move" -> x.move(a[0], a[1], a[2]);
                case "wed" -> bit(x.wed(a[0], a[1]));
                case "divorce" -> x.divorce(a[0]);
                case "rule" -> bit(x.rule(a[0], a[1]));
                case "far" -> x.far(a[0], a[1]);
                case "heard" -> x.heard(a[0]);
                case "rings" -> x.rings(a[0]);
                case "answers" -> x.answers(a[0]);
                case "way" -> x.way(a[0], a[1], a[2]);
                case "parts" -> x.parts();
                case "loveIn" -> x.loveIn(a[0], a[1]);
                case "partsIn" -> x.partsIn(a[0]);
                case "silentIn" -> x.silentIn(a[0]);
                case "holdIn" -> x.holdIn(a[0]);
                case "mends" -> x.mends(a[0]);
                case "mendSet" -> x.mendSet(a[0]);
                case "cuts" -> x.cuts(a[0], a[1]);
                case "cutSet" -> x.cutSet(a[0], a[1]);
                case "hangs" -> x.hangs(a[0]);
                case "vital" -> x.vital();
                case "pulled" -> x.pulled(a[0]);
                case "crossed" -> x.crossed(a[0]);
                case "pair" -> x.pair(a[0]);
                case "swapped" -> x.swapped();
                case "game" -> x.game(a[0]);
                case "moveOf" -> x.moveOf(a[0]);
                case "lasts" -> bit(x.lasts(a[0]));
                case "faith" -> bit(x.faith(a[0]));
                case "live" -> x.live(a[0]);
                case "lived" -> x.lived(a[0]);
                case "mean" -> bit(x.mean(a[0], a[1]));
                case "mark" -> x.mark();
                case "back" -> x.back();
                default -> throw new IllegalArgumentException(f);
            };
        }
    }
}
