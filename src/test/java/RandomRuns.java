/**
 * Long runs of drawn calls on the program and on Model, each answer of one compared with the other's. The draws come
 * from the run's number alone, so that every run is the same each time. An argument: how many runs.
 */
public final class RandomRuns {
    private static final int RUNS = 1500;
    private static final int CALLS = 512;
    // Laws under which much can come, as drawn ones mostly let all or nothing.
    private static final String[] LAWS = {
        "1", "a>b", "a<b", "!(a=b)", "a>b|i<j", "i<j?a>b;a<b", "d=1?a<b;a>b", "a-b<3&b-a<3", "(a+b)%2", "a>b+2|b>a+5",
        "k=0?a>b;k=1?a<b;a=b", "a>20|b>20", "a*i>b*j", "i>j&a%3=b%3|i<j&a>b", "a/4>b/4", "a-b",
    };
    private static final int[] EDGES = {-1, 0, 1, -2, Integer.MIN_VALUE, Integer.MAX_VALUE, 100, 128, 255, 256, 61, 7, 4};

    private final SmallerOut x = new SmallerOut();
    private final Model m = new Model();
    private final StringBuilder told = new StringBuilder();
    private final int rooms;
    private final int tallest;
    private final boolean full;
    private long state;
    private int calls = 0;
    private int wrong = 0;

    private RandomRuns(int run) {
        // Drawn once, so that two runs do not draw the same row one place apart.
        state = run;
        state = draw();
        rooms = below(10) == 0 ? below(3) : 2 + below(3);
        tallest = below(3) == 0 ? 99 : 2 + below(8);
        full = below(4) == 0;
    }

    public static void main(String[] args) {
        int runs = args.length > 0 ? Integer.parseInt(args[0]) : RUNS;
        long calls = 0;
        int wrong = 0;
        for (int run = 1; run <= runs && wrong < 5; run++) {
            RandomRuns one = new RandomRuns(run);
            one.run(run);
            calls += one.calls;
            wrong += one.wrong;
        }
        System.out.println("RandomRuns: " + calls + " answers compared, " + wrong + " runs went wrong");
        if (wrong != 0) {
            System.exit(1);
        }
    }

    // ---- draws

    private long draw() {
        state += 0x9E3779B97F4A7C15L;
        long z = (state ^ state >>> 30) * 0xBF58476D1CE4E5B9L;
        z = (z ^ z >>> 27) * 0x94D049BB133111EBL;
        return z ^ z >>> 31;
    }

    private int below(int n) {
        return (int) Math.floorMod(draw(), (long) n);
    }

    /** One of lo .. hi, seldom one just outside or far off. */
    private int one(int lo, int hi) {
        switch (below(40)) {
            case 0:
                return lo - 1;
            case 1:
                return hi + 1;
            case 2:
                return EDGES[below(EDGES.length)];
            default:
                return lo + below(Math.max(1, hi - lo + 1));
        }
    }

    private int anyRoom() {
        return one(0, m.count(1) - 1);
    }

    private int anyone() {
        return one(0, m.count(0) - 1);
    }

    private int anyDoor() {
        return one(0, m.count(2) - 1);
    }

    private int pair() {
        return 10 * anyone() + anyone();
    }

    /** Two of the shelves more often than the others, so that they hold something. */
    private int anyShelf() {
        return below(3) == 0 ? one(0, 5) : below(2);
    }

    private int set() {
        int people = Math.max(1, m.count(0));
        return below(8) == 0 ? one(1, (1 << people) - 1) : 1 << below(people) | 1 << below(people);
    }

    private int size() {
        return one(1, tallest);
    }

    /** A change that may be now, mostly. */
    private int someChange() {
        int many = m.changes(-1);
        return many == 0 || below(8) == 0 ? 100 * anyDoor() + pair() : m.changes(below(many));
    }

    // ---- runs

    private void same(String call, long got, long due) {
        calls++;
        told.append(call).append(" -> ").append(got).append('\n');
        if (got != due && wrong == 0) {
            wrong = 1;
            System.out.println(told);
            System.out.println("the last one is due to be " + due);
        }
    }

    private void run(int run) {
        told.append("run ").append(run).append('\n');
        furnish();
        while (wrong == 0 && calls < CALLS - 130) {
            switch (below(7)) {
                case 0:
                    callHouse();
                    break;
                case 1:
                    callChanges();
                    break;
                case 2:
                    if (below(3) == 0) {
                        callDear();
                    }
                    break;
                case 3:
                    callEvenings();
                    break;
                case 4:
                    callActs();
                    break;
                case 5:
                    callShelves();
                    break;
                default:
                    if (below(12) == 0) {
                        callLaw();
                    }
                    break;
            }
        }
    }

    private void furnish() {
        for (int i = 0; i < rooms; i++) {
            same("room()", x.room(), m.room());
        }
        int doors = below(10) == 0 ? 0 : 1 + below(5);
        for (int i = 0; i < doors; i++) {
            callDoor();
        }
        int people = full ? 7 : below(12) == 0 ? below(2) : 2 + below(5);
        for (int i = 0; i < people; i++) {
            int size = size();
            int room = below(2) == 0 ? anyRoom() : i % Math.max(1, rooms);
            same("person(" + size + ", " + room + ")", x.person(size, room), m.person(size, room));
        }
        if (below(3) == 0) {
            callLaw();
        }
        for (int i = 0; i < people; i++) {
            callMend(one(0, people - 1), 1, one(0, 9));
        }
        for (int i = 0; i < 10; i++) {
            callDear();
        }
    }

    private void callDoor() {
        int a = anyRoom();
        int b = anyRoom();
        int ab = 10 * a + (a == b && rooms > 1 && a < rooms - 1 ? a + 1 : b);
        int kind = one(0, 2);
        same("door(" + ab + ", " + kind + ")", x.door(ab, kind), m.door(ab, kind));
    }

    private void callHouse() {
        switch (below(9)) {
            case 0:
                if (below(10) == 0) {
                    same("room()", x.room(), m.room());
                }
                break;
            case 1:
                if (below(4) == 0) {
                    callDoor();
                }
                break;
            case 2: {
                if (below(4) == 0) {
                    int size = size();
                    int room = anyRoom();
                    same("person(" + size + ", " + room + ")", x.person(size, room), m.person(size, room));
                }
                break;
            }
            case 3: {
                int shelf = anyShelf();
                int i = one(0, 8);
                int n = one(1, 7);
                same("people(" + shelf + ", " + i + ", " + n + ")", x.people(shelf, i, n), m.people(shelf, i, n));
                break;
            }
            case 4:
            case 5: {
                int what = one(0, 3);
                int number = what == 3 ? one(0, 0) : what == 2 ? anyDoor() : anyone();
                int v = what == 0 ? size() : one(0, what == 1 ? 9 : what == 2 ? 2 : 20);
                callMend(number, what, v);
                break;
            }
            case 6: {
                int person = one(-1, m.count(0) - 1);
                same("wear(" + person + ")", x.wear(person), m.wear(person));
                break;
            }
            default: {
                int what = new int[] {0, 1, 2, 3, 10, 11, 20, 30, one(0, 31)}[below(9)];
                int number = what == 30 ? one(0, 0) : one(0, 6);
                same("of(" + number + ", " + what + ")", x.of(number, what), m.of(number, what));
                break;
            }
        }
    }

    private void callMend(int number, int what, int v) {
        same("mend(" + number + ", " + what + ", " + v + ")", x.mend(number, what, v), m.mend(number, what, v));
    }

    private void callChanges() {
        switch (below(4)) {
            case 0: {
                int change = someChange();
                int door = change / 100;
                int pq = change % 100;
                same("may(" + door + ", " + pq + ")", x.may(door, pq), m.may(door, pq));
                break;
            }
            case 1: {
                int i = below(4) == 0 ? -1 : one(-1, m.changes(-1));
                same("changes(" + i + ")", x.changes(i), m.changes(i));
                break;
            }
            case 2: {
                int change = someChange();
                int door = change / 100;
                int pq = change % 100;
                same("change(" + door + ", " + pq + ")", x.change(door, pq), m.change(door, pq));
                break;
            }
            default: {
                int what = one(0, 1);
                same("led(" + what + ")", x.led(what), m.led(what));
                break;
            }
        }
    }

    private void callDear() {
        int set = set();
        int room = anyRoom();
        switch (below(8)) {
            case 0: {
                int what = one(0, 2);
                same("reach(" + what + ")", x.reach(what), m.reach(what));
                break;
            }
            case 1: {
                int person = anyone();
                same("canBe(" + person + ")", x.canBe(person), m.canBe(person));
                break;
            }
            case 2:
            case 3: {
                int goer = below(3) == 0 ? -1 : one(-1, m.count(0) - 1);
                String call = "fewest(" + set + ", " + room + ", " + goer + ")";
                same(call, x.fewest(set, room, goer), m.fewest(set, room, goer));
                break;
            }
            case 4:
                same("first(" + set + ", " + room + ")", x.first(set, room), m.first(set, room));
                break;
            case 5:
                same("turn(" + set + ", " + room + ")", x.turn(set, room), m.turn(set, room));
                break;
            case 6: {
                int what = one(0, 1);
                String call = "boots(" + set + ", " + room + ", " + what + ")";
                same(call, x.boots(set, room, what), m.boots(set, room, what));
                break;
            }
            default:
                same("month(" + set + ", " + room + ")", x.month(set, room), m.month(set, room));
                break;
        }
    }

    private void callEvenings() {
        switch (below(8)) {
            case 0: {
                int seed = (int) draw();
                int n = one(1, 99);
                int person = below(2) == 0 ? -1 : anyone();
                int what = person >= 0 ? one(0, 0) : one(0, 1);
                String call = "tries(" + seed + ", " + n + ", " + person + ", " + what + ")";
                same(call, x.tries(seed, n, person, what), m.tries(seed, n, person, what));
                break;
            }
            case 1: {
                fillWithEvening();
                break;
            }
            case 2: {
                fillWithRooms();
                break;
            }
            case 3:
                same("image()", x.image(), m.image());
                break;
            case 4:
                same("back()", x.back(), m.back());
                break;
            case 5:
            case 6:
                same("undo()", x.undo(), m.undo());
                break;
            default:
                same("redo()", x.redo(), m.redo());
                break;
        }
    }

    /** A row of changes that mostly can be, as a model led by the same draws would make them, and its judgement. */
    private void fillWithEvening() {
        int shelf = anyShelf();
        int n = below(5) == 0 ? one(0, 12) : 3 * below(4);
        callRow(shelf, 0, n);
        for (int i = 0; i + 2 < n && i < 60; i += 3) {
            int change = someChange();
            callPut(shelf, i, change / 100);
            callPut(shelf, i + 1, change / 10 % 10);
            callPut(shelf, i + 2, change % 10);
        }
        same("judge(" + shelf + ")", x.judge(shelf), m.judge(shelf));
    }

    private void fillWithRooms() {
        int shelf = anyShelf();
        int n = below(5) == 0 ? one(0, 9) : m.count(0);
        callRow(shelf, 0, n);
        int one = below(Math.max(1, m.count(0)));
        int other = below(Math.max(1, m.count(0)));
        for (int p = 0; p < n && p < m.count(0); p++) {
            int from = p == one ? other : p == other ? one : p;
            callPut(shelf, p, below(30) == 0 ? anyRoom() : m.of(from, 1));
        }
        same("seen(" + shelf + ")", x.seen(shelf), m.seen(shelf));
    }

    private void callActs() {
        switch (below(4)) {
            case 0: {
                int kind = one(0, 7);
                same("body(" + kind + ")", x.body(kind), m.body(kind));
                break;
            }
            case 1:
            case 2: {
                int body = one(0, m.count(5) - 1);
                int act = one(0, 3);
                int with = below(3) == 0 ? (int) draw() : one(0, 20);
                String call = "act(" + body + ", " + act + ", " + with + ")";
                same(call, x.act(body, act, with), m.act(body, act, with));
                break;
            }
            default: {
                int i = one(0, 12);
                same("trace(" + i + ")", x.trace(i), m.trace(i));
                int what = one(0, 6);
                same("count(" + what + ")", x.count(what), m.count(what));
                break;
            }
        }
    }

    private void callShelves() {
        int shelf = anyShelf();
        switch (below(7)) {
            case 0: {
                int body = one(-1, m.count(5) - 1);
                same("keep(" + shelf + ", " + body + ")", x.keep(shelf, body), m.keep(shelf, body));
                break;
            }
            case 1:
                callRow(shelf, one(0, 4), below(3) == 0 ? one(0, 60) : one(0, 12));
                break;
            case 2:
            case 3: {
                int i = one(0, 11);
                callPut(shelf, i, below(3) == 0 ? draw() : below(3) == 0 ? one(0, 300) : one(0, 9));
                break;
            }
            case 4: {
                int i = one(0, 11);
                same("element(" + shelf + ", " + i + ")", x.element(shelf, i), m.element(shelf, i));
                break;
            }
            case 5: {
                int i = one(0, 8);
                int other = anyShelf();
                int j = one(0, 8);
                int n = one(0, 5);
                String call = "shift(" + shelf + ", " + i + ", " + other + ", " + j + ", " + n + ")";
                same(call, x.shift(shelf, i, other, j, n), m.shift(shelf, i, other, j, n));
                break;
            }
            default: {
                int k = one(0, 7);
                same("taken(" + shelf + ", " + k + ")", x.taken(shelf, k), m.taken(shelf, k));
                break;
            }
        }
    }

    private void callRow(int shelf, int sort, int n) {
        same("row(" + shelf + ", " + sort + ", " + n + ")", x.row(shelf, sort, n), m.row(shelf, sort, n));
    }

    private void callPut(int shelf, int i, long v) {
        same("put(" + shelf + ", " + i + ", " + v + ")", x.put(shelf, i, v), m.put(shelf, i, v));
    }

    // ---- laws

    private void callLaw() {
        StringBuilder text = new StringBuilder();
        if (below(2) == 0) {
            text.append(LAWS[below(LAWS.length)]);
        } else {
            drawLines(text);
        }
        if (below(4) == 0) {
            spoil(text);
        }
        for (int i = 0; i < text.length() && calls < CALLS - 10; i++) {
            same("feed(" + (int) text.charAt(i) + ")", x.feed(text.charAt(i)), m.feed(text.charAt(i)));
        }
        told.append(text).append('\n');
        same("law()", x.law(), m.law());
    }

    private void drawLines(StringBuilder text) {
        int lines = 1 + below(3);
        for (int i = 0; i < lines; i++) {
            text.append(i == 0 ? "" : ";");
            if (below(3) == 0) {
                part(text, below(3), 0);
                text.append('?');
            }
            part(text, below(3), 0);
        }
    }

    private void spoil(StringBuilder text) {
        String bytes = "()!-+*/%<=>|&?;0123abdkij c\u00ff";
        int times = 1 + below(3);
        for (int i = 0; i < times; i++) {
            int at = below(text.length() + 1);
            char c = bytes.charAt(below(bytes.length()));
            switch (below(3)) {
                case 0:
                    text.insert(at, c);
                    break;
                case 1:
                    text.setLength(at);
                    break;
                default:
                    if (at < text.length()) {
                        text.setCharAt(at, c);
                    }
                    break;
            }
        }
    }

    private void part(StringBuilder text, int level, int open) {
        String[] signs = {"|", "&", "<=>", "+-", "*/%"};
        if (level < 5) {
            part(text, level + 1, open);
            for (int i = 0; i < 2 && below(level == 2 ? 2 : 5) == 0 && text.length() < 100; i++) {
                text.append(signs[level].charAt(below(signs[level].length())));
                part(text, level + 1, open);
                if (level == 2) {
                    return;
                }
            }
            return;
        }
        int drawn = below(10);
        if (drawn < 5) {
            text.append("aabbdkij".charAt(below(8)));
        } else if (drawn < 7) {
            text.append(below(3) == 0 ? below(10000) : below(12));
        } else if (open >= 6 && below(20) != 0 || text.length() > 100) {
            text.append('a');
        } else if (drawn == 7) {
            text.append('(');
            part(text, 0, open + 1);
            text.append(')');
        } else {
            text.append(drawn == 8 ? '!' : '-');
            part(text, 5, open + 1);
        }
    }
}
