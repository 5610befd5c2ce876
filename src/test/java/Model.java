import java.util.ArrayDeque;
import java.util.ArrayList;
import java.util.Arrays;
import java.util.Collections;
import java.util.HashMap;
import java.util.HashSet;
import java.util.List;
import java.util.Map;
import java.util.Set;

/**
 * The document told a second time by other means than the program's (maps, a law read anew at each asking, kinds that
 * are Java's own), so that answers of long runs can be compared. It is slow and heeds no limit of LANGUAGE.md.
 */
final class Model {
    static final int BAD = -1, NOT = -2, FULL = -3, STATE = -5, VOID = -2000000000;

    private record Door(int from, int to, int kind) {
        Door turned() {
            return new Door(to, from, kind);
        }
    }

    private record Change(int door, int p, int q) {
        int told() {
            return 100 * door + 10 * p + q;
        }
    }

    private record Mended(int number, int what, int was, int became) { }

    private record Pair(int door, Door as, int a, int b) { }

    private int rooms = 0;
    private final List<Door> doors = new ArrayList<>();
    private final List<Integer> sizes = new ArrayList<>();
    private final List<Integer> grown = new ArrayList<>();
    private List<Integer> places = new ArrayList<>();
    private int wearer = -1;
    private int add = 5;
    private final StringBuilder tape = new StringBuilder();
    private String text = null;
    private final Map<Pair, Boolean> lawful = new HashMap<>();
    private final List<Change> changed = new ArrayList<>();
    private List<Integer> imagePlaces = null;
    private int imageWearer = -1;
    private final ArrayDeque<Mended> toUndo = new ArrayDeque<>();
    private final ArrayDeque<Mended> toRedo = new ArrayDeque<>();
    private final List<DoorBody> bodies = new ArrayList<>();
    private final List<Integer> ran = new ArrayList<>();
    private final Object[] shelves = new Object[6];

    // ---- rooms, doors, people

    int room() {
        return rooms == 4 ? FULL : rooms++;
    }

    int door(int ab, int kind) {
        for (int a = 0; a < rooms; a++) {
            for (int b = 0; b < rooms; b++) {
                if (a != b && ab == 10 * a + b && List.of(0, 1, 2).contains(kind)) {
                    if (doors.size() == 5) {
                        return FULL;
                    }
                    doors.add(new Door(a, b, kind));
                    return doors.size() - 1;
                }
            }
        }
        return BAD;
    }

    private boolean isRoom(int r) {
        return 0 <= r && r < rooms;
    }

    private boolean isPerson(int p) {
        return 0 <= p && p < sizes.size();
    }

    int person(int size, int room) {
        if (size < 1 || size > 99 || !isRoom(room)) {
            return BAD;
        }
        if (sizes.size() == 7) {
            return FULL;
        }
        sizes.add(size);
        grown.add(0);
        places.add(room);
        return sizes.size() - 1;
    }

    int people(int shelf, int i, int n) {
        if (shelf < 0 || shelf > 5 || n < 1 || n > 7) {
            return BAD;
        }
        if (shelves[shelf] == null) {
            return 0;
        }
        if (!(shelves[shelf] instanceof byte[] row)) {
            return -12;
        }
        int came = 0;
        for (long at = i; came < n && at >= 0 && at + 1 < row.length; at += 2) {
            if (person(row[(int) at], row[(int) at + 1]) < 0) {
                break;
            }
            came++;
        }
        return came;
    }

    int mend(int number, int what, int v) {
        int was;
        if (what == 0 && isPerson(number) && v > 0 && v < 100) {
            was = sizes.get(number);
        } else if (what == 1 && isPerson(number) && v >= 0 && v < 10) {
            was = grown.get(number);
        } else if (what == 2 && number >= 0 && number < doors.size() && v >= 0 && v < 3) {
            was = doors.get(number).kind();
        } else if (what == 3 && number == 0 && v >= 0 && v <= 20) {
            was = add;
        } else {
            return BAD;
        }
        if (was == v) {
            return was;
        }
        lay(number, what, v);
        toUndo.addLast(new Mended(number, what, was, v));
        if (toUndo.size() == 41) {
            toUndo.removeFirst();
        }
        toRedo.clear();
        return was;
    }

    private void lay(int number, int what, int v) {
        switch (what) {
            case 0 -> sizes.set(number, v);
            case 1 -> grown.set(number, v);
            case 2 -> doors.set(number, new Door(doors.get(number).from(), doors.get(number).to(), v));
            default -> add = v;
        }
    }

    int wear(int person) {
        if (person != -1 && !isPerson(person)) {
            return VOID;
        }
        int was = wearer;
        wearer = person;
        return was;
    }

    int of(int number, int what) {
        boolean person = isPerson(number);
        boolean door = number >= 0 && number < doors.size();
        if (what == 0 && person) {
            return sizes.get(number);
        } else if (what == 1 && person) {
            return places.get(number);
        } else if (what == 2 && person) {
            return grown.get(number);
        } else if (what == 3 && person) {
            return heights(0, wearer).get(number);
        } else if (what == 10 && door) {
            return 10 * doors.get(number).from() + doors.get(number).to();
        } else if (what == 11 && door) {
            return doors.get(number).kind();
        } else if (what == 20 && isRoom(number)) {
            int bits = 0;
            for (int p = 0; p < places.size(); p++) {
                bits += places.get(p) == number ? 1 << p : 0;
            }
            return bits;
        } else if (what == 30 && number == 0) {
            return add;
        }
        return BAD;
    }

    int feed(int letter) {
        if (letter < 0 || letter > 255) {
            return BAD;
        }
        if (tape.length() == 120) {
            return FULL;
        }
        tape.append((char) letter);
        return tape.length();
    }

    int law() {
        String told = tape.toString();
        tape.setLength(0);
        int fault = fault(told);
        if (fault >= 0) {
            return -100 - fault;
        }
        text = told;
        lawful.clear();
        return 1;
    }

    /**
     * The first byte with which no text goes on, byte by byte: what may come next depends on whether an O is due, on
     * what is open, on whether the comparison in hand has its sign, and on whether the line has its ?.
     */
    static int fault(String told) {
        boolean due = true;
        int digits = 0;
        boolean asked = false;
        ArrayDeque<Character> open = new ArrayDeque<>();
        ArrayDeque<Boolean> compared = new ArrayDeque<>(List.of(false));
        for (int at = 0; at < told.length(); at++) {
            char c = told.charAt(at);
            if (due) {
                if ("(!-".indexOf(c) >= 0) {
                    if (open.size() == 6) {
                        return at;
                    }
                    open.push(c);
                    if (c == '(') {
                        compared.push(false);
                    }
                    continue;
                }
                if (!Character.toString(c).matches("[0-9abdkij]")) {
                    return at;
                }
                due = false;
                digits = c <= '9' ? 1 : 4;
                closeSigns(open);
                continue;
            }
            if (c >= '0' && c <= '9' && digits < 4) {
                digits++;
                continue;
            }
            digits = 4;
            if (c == ')') {
                if (open.isEmpty()) {
                    return at;
                }
                open.pop();
                compared.pop();
                closeSigns(open);
                continue;
            }
            boolean clear = "|&".indexOf(c) >= 0;
            if ("<=>".indexOf(c) >= 0) {
                if (compared.pop()) {
                    return at;
                }
                compared.push(true);
            } else if (c == '?' || c == ';') {
                if (!open.isEmpty() || (c == '?' && asked)) {
                    return at;
                }
                asked = c == '?';
                clear = true;
            } else if ("|&+-*/%".indexOf(c) < 0) {
                return at;
            }
            if (clear) {
                compared.pop();
                compared.push(false);
            }
            due = true;
        }
        return due || !open.isEmpty() ? told.length() : -1;
    }

    private static void closeSigns(ArrayDeque<Character> open) {
        while (!open.isEmpty() && open.peek() != '(') {
            open.pop();
        }
    }

    // ---- the law, worked out from the text by its parts

    private static int value(String told, Map<Character, Integer> names) {
        for (String line : told.split(";")) {
            String[] parts = line.split("\\?");
            if (parts.length == 1 || worth(parts[0], names) != 0) {
                return worth(parts[parts.length - 1], names);
            }
        }
        return 0;
    }

    /** By the sign outside all brackets that binds least, the last of those. */
    private static int worth(String e, Map<Character, Integer> names) {
        for (String signs : new String[] {"|", "&", "<=>", "+-", "*/%"}) {
            int depth = 0;
            for (int at = e.length() - 1; at > 0; at--) {
                char c = e.charAt(at);
                depth += c == ')' ? 1 : c == '(' ? -1 : 0;
                boolean joins = ")abdkij0123456789".indexOf(e.charAt(at - 1)) >= 0;
                if (depth == 0 && joins && signs.indexOf(c) >= 0) {
                    return joined(c, worth(e.substring(0, at), names), worth(e.substring(at + 1), names));
                }
            }
        }
        char c = e.charAt(0);
        if (c == '(') {
            return worth(e.substring(1, e.length() - 1), names);
        } else if (c == '!') {
            return worth(e.substring(1), names) == 0 ? 1 : 0;
        } else if (c == '-') {
            return -worth(e.substring(1), names);
        }
        return names.containsKey(c) ? names.get(c) : Integer.parseInt(e);
    }

    private static int joined(char c, int left, int right) {
        return switch (c) {
            case '|' -> left == 0 && right == 0 ? 0 : 1;
            case '&' -> left == 0 || right == 0 ? 0 : 1;
            case '<' -> left < right ? 1 : 0;
            case '=' -> left == right ? 1 : 0;
            case '>' -> left > right ? 1 : 0;
            case '+' -> left + right;
            case '-' -> left - right;
            case '*' -> left * right;
            case '/' -> right == 0 ? 0 : (int) ((long) left / right);
            default -> right == 0 ? 0 : (int) ((long) left % right);
        };
    }

    // ---- what may be, in any arrangement

    private List<Integer> heights(int months, int inBoots) {
        List<Integer> all = new ArrayList<>();
        for (int p = 0; p < sizes.size(); p++) {
            all.add(sizes.get(p) + grown.get(p) * months + (p == inBoots ? add : 0));
        }
        return all;
    }

    /** Doors and heights as they are thought of. */
    private final class Thought {
        final List<Door> through;
        final List<Integer> tall;
        final int goer;

        Thought(List<Door> through, List<Integer> tall, int goer) {
            this.through = through;
            this.tall = tall;
            this.goer = goer;
        }

        boolean may(List<Integer> where, Change c) {
            Door door = through.get(c.door());
            if (where.get(c.p()) != door.from() || where.get(c.q()) != door.to()) {
                return false;
            }
            if (goer >= 0 && c.p() != goer && c.q() != goer) {
                return false;
            }
            int a = tall.get(c.p());
            int b = tall.get(c.q());
            if (text == null) {
                return door.kind() == 0 ? a > b : door.kind() == 1 ? b > a : !(b > a);
            }
            return lawful.computeIfAbsent(new Pair(c.door(), door, a, b), k -> value(text, Map.of('a', a, 'b', b,
                    'd', c.door(), 'k', door.kind(), 'i', door.from(), 'j', door.to())) != 0);
        }

        List<Change> all(List<Integer> where) {
            List<Change> found = new ArrayList<>();
            for (int door = 0; door < through.size(); door++) {
                for (int p = 0; p < where.size(); p++) {
                    for (int q = 0; q < where.size(); q++) {
                        Change c = new Change(door, p, q);
                        if (p != q && may(where, c)) {
                            found.add(c);
                        }
                    }
                }
            }
            return found;
        }

        /** How far each arrangement is that can come from one. */
        Map<List<Integer>, Integer> far(List<Integer> start) {
            Map<List<Integer>, Integer> far = new HashMap<>();
            ArrayDeque<List<Integer>> next = new ArrayDeque<>();
            far.put(start, 0);
            next.add(start);
            while (!next.isEmpty()) {
                List<Integer> where = next.remove();
                for (Change c : all(where)) {
                    List<Integer> then = after(where, c);
                    if (far.putIfAbsent(then, far.get(where) + 1) == null) {
                        next.add(then);
                    }
                }
            }
            return far;
        }

        int fewest(List<Integer> start, int set, int room) {
            int least = NOT;
            for (Map.Entry<List<Integer>, Integer> one : far(start).entrySet()) {
                boolean so = true;
                for (int p = 0; p < start.size(); p++) {
                    so &= (set & 1 << p) == 0 || one.getKey().get(p) == room;
                }
                if (so && (least == NOT || one.getValue() < least)) {
                    least = one.getValue();
                }
            }
            return least;
        }

        /** The longest way on from here; null: it leads back to where it came by. */
        Integer longest(List<Integer> where, Map<List<Integer>, Integer> known, Set<List<Integer>> by) {
            if (known.containsKey(where)) {
                return known.get(where);
            }
            if (!by.add(where)) {
                return null;
            }
            int most = 0;
            for (Change c : all(where)) {
                Integer on = longest(after(where, c), known, by);
                if (on == null) {
                    return null;
                }
                most = Math.max(most, on + 1);
            }
            by.remove(where);
            known.put(where, most);
            return most;
        }
    }

    private static List<Integer> after(List<Integer> where, Change c) {
        List<Integer> then = new ArrayList<>(where);
        Collections.swap(then, c.p(), c.q());
        return then;
    }

    private Thought now() {
        return new Thought(doors, heights(0, wearer), -1);
    }

    // ---- changes

    private Change told(int door, int pq) {
        for (int p = 0; p < sizes.size(); p++) {
            for (int q = 0; q < sizes.size(); q++) {
                if (p != q && pq == 10 * p + q && door >= 0 && door < doors.size()) {
                    return new Change(door, p, q);
                }
            }
        }
        return null;
    }

    int may(int door, int pq) {
        Change c = told(door, pq);
        return c == null ? BAD : now().may(places, c) ? 1 : 0;
    }

    int changes(int i) {
        List<Change> all = now().all(places);
        return i == -1 ? all.size() : i >= 0 && i < all.size() ? all.get(i).told() : BAD;
    }

    int change(int door, int pq) {
        Change c = told(door, pq);
        if (c == null) {
            return BAD;
        }
        if (!now().may(places, c)) {
            return NOT;
        }
        places = after(places, c);
        changed.add(c);
        return changed.size();
    }

    int led(int what) {
        if (what != 0 && what != 1) {
            return BAD;
        }
        return what == 0 ? changed.size() : changed.isEmpty() ? STATE : changed.get(changed.size() - 1).told();
    }

    // ---- what can come

    int reach(int what) {
        Thought now = now();
        switch (what) {
            case 0:
                return now.far(places).size();
            case 1:
                return (int) now.far(places).keySet().stream().filter(where -> now.all(where).isEmpty()).count();
            case 2:
                Integer most = now.longest(places, new HashMap<>(), new HashSet<>());
                return most == null ? NOT : most;
            default:
                return BAD;
        }
    }

    int canBe(int person) {
        return !isPerson(person) ? BAD
                : now().far(places).keySet().stream().mapToInt(where -> 1 << where.get(person)).reduce(0, (a, b) -> a | b);
    }

    private boolean isGoal(int set, int room) {
        return set >= 1 && set < Math.pow(2, sizes.size()) && isRoom(room);
    }

    int fewest(int set, int room, int goer) {
        if (!isGoal(set, room) || goer < -1 || goer >= sizes.size()) {
            return BAD;
        }
        return new Thought(doors, heights(0, wearer), goer).fewest(places, set, room);
    }

    int first(int set, int room) {
        if (!isGoal(set, room)) {
            return BAD;
        }
        Thought now = now();
        int few = now.fewest(places, set, room);
        if (few <= 0) {
            return few == 0 ? STATE : NOT;
        }
        for (Change c : now.all(places)) {
            if (now.fewest(after(places, c), set, room) == few - 1) {
                return c.told();
            }
        }
        throw new IllegalStateException("a way without a first change");
    }

    int turn(int set, int room) {
        if (!isGoal(set, room)) {
            return BAD;
        }
        int best = NOT;
        for (int turned = 0; turned < 1 << doors.size(); turned++) {
            List<Door> as = new ArrayList<>();
            for (int d = 0; d < doors.size(); d++) {
                as.add((turned & 1 << d) != 0 ? doors.get(d).turned() : doors.get(d));
            }
            boolean fewer = best == NOT || Integer.bitCount(turned) < Integer.bitCount(best);
            if (fewer && new Thought(as, heights(0, wearer), -1).fewest(places, set, room) != NOT) {
                best = turned;
            }
        }
        return best;
    }

    int boots(int set, int room, int what) {
        if (!isGoal(set, room) || (what != 0 && what != 1)) {
            return VOID;
        }
        Map<Integer, Integer> by = new HashMap<>();
        for (int p = sizes.size() - 1; p >= -1; p--) {
            int few = new Thought(doors, heights(0, p), -1).fewest(places, set, room);
            if (few != NOT) {
                by.put(few, p);
            }
        }
        if (by.isEmpty()) {
            return NOT;
        }
        int least = Collections.min(by.keySet());
        return what == 0 ? by.get(least) : least;
    }

    int month(int set, int room) {
        if (!isGoal(set, room)) {
            return BAD;
        }
        for (int m = 0; m < 25; m++) {
            if (new Thought(doors, heights(m, wearer), -1).fewest(places, set, room) >= 0) {
                return m;
            }
        }
        return NOT;
    }

    // ---- evenings

    int tries(int seed, int n, int person, int what) {
        if (n < 1 || n > 99 || person < -1 || person >= sizes.size() || what < 0 || what > (person < 0 ? 1 : 0)) {
            return BAD;
        }
        if (doors.isEmpty()) {
            return STATE;
        }
        Thought now = now();
        List<Integer> where = places;
        int z = seed;
        int many = 0;
        int till = now.all(where).isEmpty() ? 0 : NOT;
        for (int i = 1; i <= n; i++) {
            z = z * 1103515245 + 12345;
            int d = (z >>> 8) % doors.size();
            List<Integer> here = in(where, doors.get(d).from());
            List<Integer> there = in(where, doors.get(d).to());
            if (!here.isEmpty() && !there.isEmpty()) {
                z = z * 1103515245 + 12345;
                int p = here.get((z >>> 8) % here.size());
                z = z * 1103515245 + 12345;
                Change c = new Change(d, p, there.get((z >>> 8) % there.size()));
                if (now.may(where, c)) {
                    where = after(where, c);
                    many++;
                }
            }
            if (till == NOT && now.all(where).isEmpty()) {
                till = i;
            }
        }
        return person >= 0 ? where.get(person) : what == 0 ? many : till;
    }

    private static List<Integer> in(List<Integer> where, int room) {
        List<Integer> those = new ArrayList<>();
        for (int p = 0; p < where.size(); p++) {
            if (where.get(p) == room) {
                those.add(p);
            }
        }
        return those;
    }

    int judge(int shelf) {
        if (shelf < 0 || shelf > 5) {
            return BAD;
        }
        if (!(shelves[shelf] instanceof byte[] row)) {
            return shelves[shelf] == null ? -11 : -12;
        }
        List<Integer> where = places;
        for (int three = 0; 3 * three < row.length; three++) {
            if (3 * three + 2 >= row.length) {
                return three;
            }
            int p = row[3 * three + 1];
            int q = row[3 * three + 2];
            Change c = p < 0 || q < 0 || q > 9 ? null : told(row[3 * three], 10 * p + q);
            if (c == null || !now().may(where, c)) {
                return three;
            }
            where = after(where, c);
        }
        return NOT;
    }

    int seen(int shelf) {
        if (shelf < 0 || shelf > 5) {
            return BAD;
        }
        if (!(shelves[shelf] instanceof byte[] row)) {
            return shelves[shelf] == null ? -11 : -12;
        }
        if (row.length < sizes.size()) {
            return NOT;
        }
        List<Integer> wanted = new ArrayList<>();
        for (int p = 0; p < sizes.size(); p++) {
            wanted.add((int) row[p]);
        }
        return now().far(places).getOrDefault(wanted, NOT);
    }

    int image() {
        imagePlaces = new ArrayList<>(places);
        imageWearer = wearer;
        return imagePlaces.size();
    }

    int back() {
        if (imagePlaces == null) {
            return STATE;
        }
        List<Integer> since = places.subList(imagePlaces.size(), places.size());
        List<Integer> all = new ArrayList<>(imagePlaces);
        all.addAll(since);
        places = all;
        wearer = imageWearer;
        return imagePlaces.size();
    }

    int undo() {
        if (toUndo.isEmpty()) {
            return STATE;
        }
        Mended one = toUndo.removeLast();
        lay(one.number(), one.what(), one.was());
        toRedo.addLast(one);
        return toUndo.size();
    }

    int redo() {
        if (toRedo.isEmpty()) {
            return STATE;
        }
        Mended one = toRedo.removeLast();
        lay(one.number(), one.what(), one.became());
        toUndo.addLast(one);
        return toRedo.size();
    }

    // ---- acts, shelves

    private interface Lets {
        int n();

        void begins(int body);

        default int lets(int x) {
            begins(1);
            return x + n();
        }
    }

    private interface Tells {
        void begins(int body);

        int bars(int x);

        int turns(int x);

        default int tells(int x) {
            begins(2);
            return bars(x) - turns(1);
        }
    }

    private static class DoorBody implements Lets, Tells {
        private final int number;
        private final List<Integer> ran;

        DoorBody(int number, List<Integer> ran) {
            this.number = number;
            this.ran = ran;
        }

        int kind() {
            return List.of(DoorBody.class, UpBody.class, DownBody.class, AlikeBody.class, BootBody.class, HatchBody.class,
                    ToldBody.class, BackBody.class).indexOf(getClass());
        }

        @Override
        public int n() {
            return number;
        }

        @Override
        public void begins(int body) {
            ran.add(body);
        }

        @Override
        public int bars(int x) {
            begins(10);
            return lets(x) * 2;
        }

        @Override
        public int turns(int x) {
            begins(11);
            return x ^ n();
        }
    }

    private static class UpBody extends DoorBody {
        UpBody(int number, List<Integer> ran) {
            super(number, ran);
        }

        @Override
        public int lets(int x) {
            begins(20);
            return super.lets(x) + 3;
        }
    }

    private static class DownBody extends DoorBody {
        DownBody(int number, List<Integer> ran) {
            super(number, ran);
        }

        @Override
        public int bars(int x) {
            begins(30);
            return -super.bars(x);
        }
    }

    private static class AlikeBody extends DownBody {
        AlikeBody(int number, List<Integer> ran) {
            super(number, ran);
        }

        @Override
        public int turns(int x) {
            begins(40);
            return super.turns(x) * 3;
        }

        @Override
        public int bars(int x) {
            begins(41);
            return super.bars(x + 1);
        }
    }

    private static class BootBody extends UpBody {
        BootBody(int number, List<Integer> ran) {
            super(number, ran);
        }

        @Override
        public int tells(int x) {
            begins(50);
            return super.tells(x) ^ 5;
        }
    }

    private static class HatchBody extends AlikeBody {
        HatchBody(int number, List<Integer> ran) {
            super(number, ran);
        }

        @Override
        public int turns(int x) {
            begins(60);
            return super.turns(x) - lets(2);
        }

        @Override
        public int tells(int x) {
            begins(61);
            return super.tells(x) + 1;
        }
    }

    private static class ToldBody extends DoorBody {
        ToldBody(int number, List<Integer> ran) {
            super(number, ran);
        }

        @Override
        public int lets(int x) {
            begins(70);
            return super.lets(x) * 2;
        }
    }

    private static class BackBody extends ToldBody {
        BackBody(int number, List<Integer> ran) {
            super(number, ran);
        }

        @Override
        public int bars(int x) {
            begins(80);
            return super.bars(x) + turns(2);
        }

        @Override
        public int lets(int x) {
            begins(81);
            return super.lets(x) - 1;
        }
    }

    private DoorBody made(int kind) {
        int n = bodies.size();
        return switch (kind) {
            case 0 -> new DoorBody(n, ran);
            case 1 -> new UpBody(n, ran);
            case 2 -> new DownBody(n, ran);
            case 3 -> new AlikeBody(n, ran);
            case 4 -> new BootBody(n, ran);
            case 5 -> new HatchBody(n, ran);
            case 6 -> new ToldBody(n, ran);
            default -> new BackBody(n, ran);
        };
    }

    int body(int kind) {
        if (kind < 0 || kind > 7) {
            return BAD;
        }
        if (bodies.size() == 50) {
            return FULL;
        }
        bodies.add(made(kind));
        return bodies.size() - 1;
    }

    int act(int body, int act, int x) {
        ran.clear();
        if (body < 0 || body >= bodies.size()) {
            return 0;
        }
        DoorBody one = bodies.get(body);
        return switch (act) {
            case 0 -> one.lets(x);
            case 1 -> one.bars(x);
            case 2 -> one.turns(x);
            case 3 -> one.tells(x);
            default -> 0;
        };
    }

    int trace(int i) {
        return i >= 0 && i < 24 && i < ran.size() ? ran.get(i) : BAD;
    }

    int keep(int shelf, int body) {
        if (shelf < 0 || shelf > 5 || body < -1 || body >= bodies.size()) {
            return BAD;
        }
        shelves[shelf] = body < 0 ? null : bodies.get(body);
        return 1;
    }

    int row(int shelf, int sort, int n) {
        if (shelf < 0 || shelf > 5 || sort < 0 || sort > 4 || n > 60) {
            return BAD;
        }
        if (n < 0) {
            return -14;
        }
        shelves[shelf] = switch (sort) {
            case 0 -> new byte[n];
            case 1 -> new short[n];
            case 2 -> new int[n];
            case 3 -> new long[n];
            default -> new boolean[n];
        };
        return 1;
    }

    private static int length(Object held) {
        return held.getClass().isArray() ? java.lang.reflect.Array.getLength(held) : -1;
    }

    private int refusal(int shelf, int i) {
        if (shelf < 0 || shelf > 5) {
            return BAD;
        }
        Object held = shelves[shelf];
        return held == null ? -11 : length(held) < 0 ? -12 : i < 0 || i >= length(held) ? -13 : 0;
    }

    int put(int shelf, int i, long v) {
        int refusal = refusal(shelf, i);
        if (refusal != 0) {
            return refusal;
        }
        Object held = shelves[shelf];
        if (held instanceof byte[] row) {
            row[i] = (byte) v;
        } else if (held instanceof short[] row) {
            row[i] = (short) v;
        } else if (held instanceof int[] row) {
            row[i] = (int) v;
        } else if (held instanceof long[] row) {
            row[i] = v;
        } else if (held instanceof boolean[] row) {
            row[i] = v != 0;
        }
        return 1;
    }

    long element(int shelf, int i) {
        if (refusal(shelf, i) != 0) {
            return Long.MIN_VALUE;
        }
        Object one = java.lang.reflect.Array.get(shelves[shelf], i);
        return one instanceof Boolean b ? (b ? 1 : 0) : ((Number) one).longValue();
    }

    int shift(int shelf, int i, int other, int j, int n) {
        if (shelf < 0 || shelf > 5 || other < 0 || other > 5) {
            return BAD;
        }
        Object giver = shelves[shelf];
        Object taker = shelves[other];
        if (giver == null || taker == null) {
            return -11;
        }
        if (length(giver) < 0 || length(taker) < 0 || giver.getClass() != taker.getClass()) {
            return -12;
        }
        long from = i;
        long to = j;
        if (n < 0 || from < 0 || to < 0 || from + n > length(giver) || to + n > length(taker)) {
            return -13;
        }
        System.arraycopy(giver, i, taker, j, n);
        return n;
    }

    int taken(int shelf, int k) {
        if (shelf < 0 || shelf > 5 || k < 0 || k > 7) {
            return BAD;
        }
        if (shelves[shelf] == null) {
            return -11;
        }
        return made(k).getClass().isInstance(shelves[shelf]) ? ((DoorBody) shelves[shelf]).kind() : -12;
    }

    int count(int what) {
        List<Integer> all = Arrays.asList(sizes.size(), rooms, doors.size(), tape.length(), toUndo.size(), bodies.size(),
                ran.size());
        return what < 0 || what > 6 ? BAD : all.get(what);
    }
}
