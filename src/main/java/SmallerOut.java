/**
 * Rooms with doors between them, at which two people change places if it may be, and what can come of that.
 * What each call does is promised in ../shared/DOC.md.
 */
public final class SmallerOut {
    public static final int BAD = -1, NOT = -2, FULL = -3, STATE = -5, VOID = -2000000000;

    private static final int NOTHING_THERE = -11, OTHER_KIND = -12, NO_PLACE = -13, SIZE_BELOW_0 = -14;
    private static final int NOBODY = -1;
    private static final int MOST_ROOMS = 4, MOST_DOORS = 5, MOST_PEOPLE = 7;
    private static final int MOST_SIZE = 99, MOST_GROWS = 9, MOST_ADD = 20, KINDS = 3;
    private static final int UP = 0, DOWN = 1;
    private static final int SIZE = 0, GROWS = 1, KIND = 2, ADD = 3;
    private static final int LAST_MONTH = 24, MOST_TRIES = 99;
    private static final int SHELVES = 6, MOST_ELEMENTS = 60;
    private static final int FAULT_BASE = -100;

    private final House house = new House();
    private final Tape tape = new Tape();
    private final Law theLaw = new Law();
    private final Passes passes = new Passes(house, theLaw);
    private final Search search = new Search();
    private final Evening evening = new Evening();
    private final Image kept = new Image();
    private final Log log = new Log();
    private final Acts acts = new Acts();
    private final Shelf[] shelves = new Shelf[SHELVES];
    private int changesLed = 0;
    private int latestLed = 0;

    public SmallerOut() {
        for (int i = 0; i < SHELVES; i++) {
            shelves[i] = new Shelf();
        }
    }

    // ---- rooms, doors, people

    public int room() {
        if (house.rooms >= MOST_ROOMS) {
            return FULL;
        }
        house.rooms++;
        return house.rooms - 1;
    }

    public int door(int ab, int kind) {
        int from = ab / 10;
        int to = ab % 10;
        if (!house.hasRoom(from) || !house.hasRoom(to) || from == to || kind < 0 || kind >= KINDS) {
            return BAD;
        }
        return house.addDoor(from, to, kind);
    }

    public int person(int size, int room) {
        if (!house.canCome(size, room)) {
            return BAD;
        }
        return house.addPerson(size, room);
    }

    public int people(int shelf, int i, int n) {
        if (!isShelf(shelf) || n < 1 || n > MOST_PEOPLE) {
            return BAD;
        }
        Shelf told = shelves[shelf];
        if (told.isEmpty()) {
            return 0;
        }
        if (told.bytesRefusal() != 0) {
            return OTHER_KIND;
        }
        if (i < 0) {
            return 0;
        }
        int came = 0;
        // Asked as length - i, for i + 1 could wrap.
        while (came < n && told.length - i >= 2 * came + 2 && house.persons < MOST_PEOPLE) {
            int size = (int) told.at(i + 2 * came);
            int room = (int) told.at(i + 2 * came + 1);
            if (!house.canCome(size, room)) {
                break;
            }
            house.addPerson(size, room);
            came++;
        }
        return came;
    }

    public int mend(int number, int what, int v) {
        int was = house.number(number, what);
        if (was < 0 || !House.canBecome(what, v)) {
            return BAD;
        }
        // A number that stays what it was has not changed: there is nothing to undo, and no change came behind.
        if (v != was) {
            house.setNumber(number, what, v);
            log.write(number, what, was, v);
        }
        return was;
    }

    public int wear(int person) {
        if (person != NOBODY && !house.hasPerson(person)) {
            return VOID;
        }
        int was = house.wearer;
        house.wearer = person;
        return was;
    }

    public int of(int number, int what) {
        if (what >= 0 && what <= 3) {
            return house.hasPerson(number) ? ofPerson(number, what) : BAD;
        }
        switch (what) {
            case 10:
                return house.hasDoor(number) ? 10 * house.from[number] + house.to[number] : BAD;
            case 11:
                return house.number(number, KIND);
            case 20:
                return house.hasRoom(number) ? house.whoIn(number) : BAD;
            case 30:
                return house.number(number, ADD);
            default:
                return BAD;
        }
    }

    private int ofPerson(int person, int what) {
        switch (what) {
            case 0:
                return house.size[person];
            case 1:
                return house.place[person];
            case 2:
                return house.grows[person];
            default:
                return house.height(person, house.wearer, 0);
        }
    }

    public int feed(int letter) {
        if (letter < 0 || letter > 255) {
            return BAD;
        }
        return tape.take(letter) ? tape.length : FULL;
    }

    public int law() {
        int fault = tape.read();
        tape.length = 0;
        if (fault >= 0) {
            return FAULT_BASE - fault;
        }
        theLaw.becomes(tape.draft, tape.drafted);
        return 1;
    }

    // ---- changes

    public int may(int door, int pq) {
        int p = pq / 10;
        int q = pq % 10;
        if (!house.hasDoor(door) || !house.hasPerson(p) || !house.hasPerson(q) || p == q) {
            return BAD;
        }
        passes.look(0, house.wearer, 0);
        return passes.mayBe(house.arrangement(), door, p, q) ? 1 : 0;
    }

    public int changes(int i) {
        if (i < -1) {
            return BAD;
        }
        passes.weigh(0, house.wearer, 0);
        Steps steps = search.steps;
        steps.list(passes, house.arrangement());
        if (i == -1) {
            return steps.count;
        }
        return i < steps.count ? steps.move[i] : BAD;
    }

    public int change(int door, int pq) {
        int can = may(door, pq);
        if (can < 0) {
            return BAD;
        }
        if (can == 0) {
            return NOT;
        }
        house.place[pq / 10] = house.to[door];
        house.place[pq % 10] = house.from[door];
        latestLed = 100 * door + pq;
        changesLed++;
        return changesLed;
    }

    public int led(int what) {
        if (what == 0) {
            return changesLed;
        }
        if (what != 1) {
            return BAD;
        }
        return changesLed == 0 ? STATE : latestLed;
    }

    // ---- what can come

    public int reach(int what) {
        if (what < 0 || what > 2) {
            return BAD;
        }
        passes.weigh(0, house.wearer, 0);
        search.spreadOut(passes, house.arrangement());
        if (what == 0) {
            return search.found;
        }
        return what == 1 ? search.rests(passes) : search.longest(passes);
    }

    public int canBe(int person) {
        if (!house.hasPerson(person)) {
            return BAD;
        }
        passes.weigh(0, house.wearer, 0);
        search.spreadOut(passes, house.arrangement());
        int rooms = 0;
        for (int i = 0; i < search.found; i++) {
            rooms |= 1 << roomIn(search.codes[i], person);
        }
        return rooms;
    }

    public int fewest(int set, int room, int goer) {
        if (!isGoal(set, room) || (goer != -1 && !house.hasPerson(goer))) {
            return BAD;
        }
        passes.weigh(0, house.wearer, 0);
        if (goer >= 0) {
            passes.onlyWith(goer);
        }
        return fewestTo(set, room);
    }

    public int first(int set, int room) {
        if (!isGoal(set, room)) {
            return BAD;
        }
        passes.weigh(0, house.wearer, 0);
        int goal = search.find(passes, house.arrangement(), 3 * pattern(set), room * pattern(set));
        if (goal < 0) {
            return NOT;
        }
        return goal == 0 ? STATE : search.lead[goal];
    }

    public int turn(int set, int room) {
        if (!isGoal(set, room)) {
            return BAD;
        }
        int sets = 1 << house.doors;
        for (int many = 0; many <= house.doors; many++) {
            for (int turned = 0; turned < sets; turned++) {
                if (Integer.bitCount(turned) != many) {
                    continue;
                }
                passes.weigh(0, house.wearer, turned);
                if (fewestTo(set, room) >= 0) {
                    return turned;
                }
            }
        }
        return NOT;
    }

    public int boots(int set, int room, int what) {
        if (!isGoal(set, room) || what < 0 || what > 1) {
            return VOID;
        }
        int best = NOT;
        int who = NOBODY;
        for (int wearer = NOBODY; wearer < house.persons; wearer++) {
            passes.weigh(0, wearer, 0);
            int few = fewestTo(set, room);
            if (few >= 0 && (best < 0 || few < best)) {
                best = few;
                who = wearer;
            }
        }
        if (best < 0) {
            return NOT;
        }
        return what == 0 ? who : best;
    }

    public int month(int set, int room) {
        if (!isGoal(set, room)) {
            return BAD;
        }
        for (int month = 0; month <= LAST_MONTH; month++) {
            passes.weigh(month, house.wearer, 0);
            if (fewestTo(set, room) >= 0) {
                return month;
            }
        }
        return NOT;
    }

    private boolean isGoal(int set, int room) {
        return set > 0 && set < 1 << house.persons && house.hasRoom(room);
    }

    private int fewestTo(int set, int room) {
        return search.fewestTill(passes, house.arrangement(), 3 * pattern(set), room * pattern(set));
    }

    // ---- evenings

    public int tries(int seed, int n, int person, int what) {
        boolean asksRoom = house.hasPerson(person) && what == 0;
        boolean asksCount = person == -1 && (what == 0 || what == 1);
        if (n < 1 || n > MOST_TRIES || (!asksRoom && !asksCount)) {
            return BAD;
        }
        if (house.doors == 0) {
            return STATE;
        }
        passes.weigh(0, house.wearer, 0);
        evening.pass(passes, search.steps, seed, n, house.arrangement());
        if (asksRoom) {
            return roomIn(evening.code, person);
        }
        return what == 0 ? evening.changed : evening.restedAfter;
    }

    public int judge(int shelf) {
        if (!isShelf(shelf)) {
            return BAD;
        }
        Shelf told = shelves[shelf];
        int refusal = told.bytesRefusal();
        if (refusal != 0) {
            return refusal;
        }
        passes.look(0, house.wearer, 0);
        int code = house.arrangement();
        for (int i = 0; i < told.length; i += 3) {
            int door = (int) told.at(i);
            int p = (int) told.at(i + 1);
            int q = (int) told.at(i + 2);
            if (i + 3 > told.length || !passes.mayBe(code, door, p, q)) {
                return i / 3;
            }
            code = passes.changed(code, door, p, q);
        }
        return NOT;
    }

    public int seen(int shelf) {
        if (!isShelf(shelf)) {
            return BAD;
        }
        Shelf told = shelves[shelf];
        int refusal = told.bytesRefusal();
        if (refusal != 0) {
            return refusal;
        }
        if (told.length < house.persons) {
            return NOT;
        }
        int code = 0;
        for (int p = 0; p < house.persons; p++) {
            int room = (int) told.at(p);
            if (!house.hasRoom(room)) {
                return NOT;
            }
            code |= room << 2 * p;
        }
        passes.weigh(0, house.wearer, 0);
        return search.fewestTill(passes, house.arrangement(), -1, code);
    }

    public int image() {
        return kept.take(house);
    }

    public int back() {
        return kept.layBack(house);
    }

    public int undo() {
        if (log.done == 0) {
            return STATE;
        }
        log.takeBack(house);
        return log.done;
    }

    public int redo() {
        if (log.undone == 0) {
            return STATE;
        }
        log.doAgain(house);
        return log.undone;
    }

    // ---- acts, shelves

    public int body(int kind) {
        if (kind < 0 || kind >= Acts.KINDS_OF_BODIES) {
            return BAD;
        }
        return acts.addBody(kind);
    }

    public int act(int body, int act, int x) {
        return acts.perform(body, act, x);
    }

    public int trace(int i) {
        return i >= 0 && i < acts.traced() ? acts.numbers[i] : BAD;
    }

    public int keep(int shelf, int body) {
        if (!isShelf(shelf) || (body != NOBODY && !acts.hasBody(body))) {
            return BAD;
        }
        shelves[shelf].holdBody(body);
        return 1;
    }

    public int row(int shelf, int sort, int n) {
        if (!isShelf(shelf) || sort < 0 || sort >= Shelf.SORTS || n > MOST_ELEMENTS) {
            return BAD;
        }
        if (n < 0) {
            return SIZE_BELOW_0;
        }
        shelves[shelf].holdRow(sort, n);
        return 1;
    }

    public int put(int shelf, int i, long v) {
        int refusal = elementRefusal(shelf, i);
        if (refusal != 0) {
            return refusal;
        }
        shelves[shelf].set(i, v);
        return 1;
    }

    public long element(int shelf, int i) {
        return elementRefusal(shelf, i) != 0 ? Long.MIN_VALUE : shelves[shelf].at(i);
    }

    private int elementRefusal(int shelf, int i) {
        if (!isShelf(shelf)) {
            return BAD;
        }
        int refusal = shelves[shelf].rowRefusal();
        if (refusal != 0) {
            return refusal;
        }
        return i < 0 || i >= shelves[shelf].length ? NO_PLACE : 0;
    }

    public int shift(int shelf, int i, int other, int j, int n) {
        if (!isShelf(shelf) || !isShelf(other)) {
            return BAD;
        }
        Shelf giver = shelves[shelf];
        Shelf taker = shelves[other];
        if (giver.isEmpty() || taker.isEmpty()) {
            return NOTHING_THERE;
        }
        if (giver.rowRefusal() != 0 || taker.rowRefusal() != 0 || giver.sort != taker.sort) {
            return OTHER_KIND;
        }
        if (!giver.hasPart(i, n) || !taker.hasPart(j, n)) {
            return NO_PLACE;
        }
        // arraycopy answers as if by a row in between, so one and the same row needs no care.
        System.arraycopy(giver.elements, i, taker.elements, j, n);
        return n;
    }

    public int taken(int shelf, int k) {
        if (!isShelf(shelf) || k < 0 || k >= Acts.KINDS_OF_BODIES) {
            return BAD;
        }
        Shelf held = shelves[shelf];
        if (held.isEmpty()) {
            return NOTHING_THERE;
        }
        int kind = acts.kindOf(held.bodyHeld);
        return Acts.isUnder(kind, k) ? kind : OTHER_KIND;
    }

    public int count(int what) {
        switch (what) {
            case 0:
                return house.persons;
            case 1:
                return house.rooms;
            case 2:
                return house.doors;
            case 3:
                return tape.length;
            case 4:
                return log.done;
            case 5:
                return acts.bodies;
            case 6:
                return acts.ran;
            default:
                return BAD;
        }
    }

    private static boolean isShelf(int shelf) {
        return shelf >= 0 && shelf < SHELVES;
    }

    // An arrangement is an int with two bits for the room of each person.
    private static int roomIn(int code, int person) {
        return code >> 2 * person & 3;
    }

    // Times 3 it is a mask of the set in an arrangement, times a room it is all of them in that room.
    private static int pattern(int set) {
        int bits = 0;
        for (int p = 0; p < MOST_PEOPLE; p++) {
            bits |= (set >> p & 1) << 2 * p;
        }
        return bits;
    }

    /** Rooms, doors and people as they are in deed. */
    private static final class House {
        int rooms = 0;
        int doors = 0;
        int persons = 0;
        int wearer = NOBODY;
        int add = 5;
        final int[] from = new int[MOST_DOORS];
        final int[] to = new int[MOST_DOORS];
        final int[] kind = new int[MOST_DOORS];
        final int[] size = new int[MOST_PEOPLE];
        final int[] grows = new int[MOST_PEOPLE];
        final int[] place = new int[MOST_PEOPLE];

        boolean hasRoom(int room) {
            return room >= 0 && room < rooms;
        }

        boolean hasDoor(int door) {
            return door >= 0 && door < doors;
        }

        boolean hasPerson(int person) {
            return person >= 0 && person < persons;
        }

        boolean canCome(int tall, int room) {
            return canBecome(SIZE, tall) && hasRoom(room);
        }

        int addDoor(int leaves, int enters, int ofKind) {
            if (doors >= MOST_DOORS) {
                return FULL;
            }
            from[doors] = leaves;
            to[doors] = enters;
            kind[doors] = ofKind;
            doors++;
            return doors - 1;
        }

        int addPerson(int tall, int room) {
            if (persons >= MOST_PEOPLE) {
                return FULL;
            }
            size[persons] = tall;
            place[persons] = room;
            persons++;
            return persons - 1;
        }

        int height(int person, int inBoots, int months) {
            int tall = size[person] + months * grows[person];
            return person == inBoots ? tall + add : tall;
        }

        int whoIn(int room) {
            int bits = 0;
            for (int p = 0; p < persons; p++) {
                if (place[p] == room) {
                    bits |= 1 << p;
                }
            }
            return bits;
        }

        int arrangement() {
            int code = 0;
            for (int p = 0; p < persons; p++) {
                code |= place[p] << 2 * p;
            }
            return code;
        }

        /** One of the numbers that can be mended; BAD: there is none such. */
        int number(int number, int what) {
            switch (what) {
                case SIZE:
                    return hasPerson(number) ? size[number] : BAD;
                case GROWS:
                    return hasPerson(number) ? grows[number] : BAD;
                case KIND:
                    return hasDoor(number) ? kind[number] : BAD;
                case ADD:
                    return number == 0 ? add : BAD;
                default:
                    return BAD;
            }
        }

        static boolean canBecome(int what, int v) {
            switch (what) {
                case SIZE:
                    return v >= 1 && v <= MOST_SIZE;
                case GROWS:
                    return v >= 0 && v <= MOST_GROWS;
                case KIND:
                    return v >= 0 && v < KINDS;
                case ADD:
                    return v >= 0 && v <= MOST_ADD;
                default:
                    return false;
            }
        }

        void setNumber(int number, int what, int v) {
            if (what == SIZE && hasPerson(number)) {
                size[number] = v;
            } else if (what == GROWS && hasPerson(number)) {
                grows[number] = v;
            } else if (what == KIND && hasDoor(number)) {
                kind[number] = v;
            } else if (what == ADD) {
                add = v;
            }
        }
    }

    /**
     * The bytes fed, and how they are read as a text: into a draft of the law in which what is worked on stands
     * ahead of its sign, so that no law needs recursion when it is asked.
     */
    private static final class Tape {
        static final int MOST_BYTES = 120;
        // A byte writes one sign at most, and the last line's end has no byte of its own.
        static final int MOST_SIGNS = MOST_BYTES + 1;
        static final int MOST_OPEN = 6, MOST_DIGITS = 4;
        static final int COMPARED = 2, OPERAND = 5;
        static final int END = -1;

        final int[] bytes = new int[MOST_BYTES];
        int length = 0;
        final int[] draft = new int[MOST_SIGNS];
        int drafted = 0;
        int at = 0;
        int fault = -1;

        boolean take(int letter) {
            if (length >= MOST_BYTES) {
                return false;
            }
            bytes[length] = letter;
            length++;
            return true;
        }

        /** The place of the fault, or -1: then the draft holds the law. */
        int read() {
            at = 0;
            fault = -1;
            drafted = 0;
            line();
            for (int lines = 1; lines < MOST_BYTES && next() == ';'; lines++) {
                at++;
                line();
            }
            if (at < length) {
                fail();
            }
            return fault;
        }

        private void line() {
            level(0, 0);
            if (next() == '?') {
                at++;
                write(-'?');
                level(0, 0);
            }
            write(-';');
        }

        // Levels: 0 |, 1 &, 2 < = >, 3 + -, 4 * / %, 5 what they join. Each level takes the next one's for its parts.
        private void level(int level, int open) {
            if (level >= OPERAND) {
                operand(open);
                return;
            }
            level(level + 1, open);
            for (int joints = 0; joints < MOST_BYTES && isJoint(next(), level); joints++) {
                int sign = next();
                at++;
                level(level + 1, open);
                write(-sign);
                if (level == COMPARED) {
                    return;
                }
            }
        }

        private void operand(int open) {
            int sign = next();
            if (isDigit(sign)) {
                number();
            } else if (isName(sign)) {
                at++;
                write(-sign);
            } else if (open >= MOST_OPEN) {
                fail();
            } else if (sign == '!' || sign == '-') {
                at++;
                operand(open + 1);
                write(sign == '!' ? -'!' : Law.NEGATE);
            } else if (sign == '(') {
                at++;
                level(0, open + 1);
                if (next() == ')') {
                    at++;
                } else {
                    fail();
                }
            } else {
                fail();
            }
        }

        private void number() {
            int value = 0;
            for (int digits = 0; digits < MOST_DIGITS && isDigit(next()); digits++) {
                value = 10 * value + next() - '0';
                at++;
            }
            write(value);
        }

        private static boolean isDigit(int sign) {
            return sign >= '0' && sign <= '9';
        }

        private static boolean isName(int sign) {
            return sign == 'a' || sign == 'b' || sign == 'd' || sign == 'k' || sign == 'i' || sign == 'j';
        }

        private static boolean isJoint(int sign, int level) {
            switch (level) {
                case 0:
                    return sign == '|';
                case 1:
                    return sign == '&';
                case COMPARED:
                    return sign == '<' || sign == '=' || sign == '>';
                case 3:
                    return sign == '+' || sign == '-';
                default:
                    return sign == '*' || sign == '/' || sign == '%';
            }
        }

        // Behind a fault nothing is read any more, so that all that is open comes to its end at once.
        private int next() {
            return fault < 0 && at < length ? bytes[at] : END;
        }

        // Only the first fault counts; that what is open then fails too must not move it.
        private void fail() {
            if (fault < 0) {
                fault = at;
            }
        }

        private void write(int sign) {
            if (drafted < MOST_SIGNS) {
                draft[drafted] = sign;
                drafted++;
            }
        }
    }

    /** The law as it was read: a number stands for itself, any other sign for its byte, below 0. */
    private static final class Law {
        static final int NEGATE = -'~';

        final int[] signs = new int[Tape.MOST_SIGNS];
        int length = 0;
        final int[] stack = new int[Tape.MOST_SIGNS];
        int high = 0;

        void becomes(int[] draft, int drafted) {
            length = drafted > signs.length ? signs.length : drafted;
            for (int i = 0; i < length && i < draft.length; i++) {
                signs[i] = draft[i];
            }
        }

        boolean isTold() {
            return length > 0;
        }

        /** What the law says of heights a and b, the door, its kind, the room of p and that of q. */
        int value(int a, int b, int door, int kind, int i, int j) {
            high = 0;
            for (int at = 0; at < length; at++) {
                int sign = signs[at];
                switch (-sign) {
                    case 'a':
                        push(a);
                        break;
                    case 'b':
                        push(b);
                        break;
                    case 'd':
                        push(door);
                        break;
                    case 'k':
                        push(kind);
                        break;
                    case 'i':
                        push(i);
                        break;
                    case 'j':
                        push(j);
                        break;
                    case ';':
                        return pop();
                    case '?':
                        if (pop() == 0) {
                            at = endOfLine(at);
                        }
                        break;
                    default:
                        work(sign);
                        break;
                }
            }
            return 0;
        }

        private int endOfLine(int from) {
            int at = from;
            while (at < length && signs[at] != -';') {
                at++;
            }
            return at;
        }

        private void work(int sign) {
            if (sign >= 0) {
                push(sign);
            } else if (sign == NEGATE) {
                push(-pop());
            } else if (sign == -'!') {
                push(pop() == 0 ? 1 : 0);
            } else {
                int right = pop();
                int left = pop();
                push(joined(-sign, left, right));
            }
        }

        private static int joined(int sign, int left, int right) {
            switch (sign) {
                case '|':
                    return left != 0 || right != 0 ? 1 : 0;
                case '&':
                    return left != 0 && right != 0 ? 1 : 0;
                case '<':
                    return left < right ? 1 : 0;
                case '=':
                    return left == right ? 1 : 0;
                case '>':
                    return left > right ? 1 : 0;
                case '+':
                    return left + right;
                case '-':
                    return left - right;
                case '*':
                    return left * right;
                case '/':
                    return right == 0 ? 0 : left / right;
                default:
                    return right == 0 ? 0 : left % right;
            }
        }

        private void push(int v) {
            if (high < stack.length) {
                stack[high] = v;
                high++;
            }
        }

        private int pop() {
            if (high <= 0) {
                return 0;
            }
            high--;
            return stack[high];
        }
    }

    /**
     * Who may change with whom at which door. A change at a door is always from the same room to the same one, so
     * that this holds for every arrangement and is worked out once for a whole search.
     */
    private static final class Passes {
        final House house;
        final Law law;
        final int[] from = new int[MOST_DOORS];
        final int[] to = new int[MOST_DOORS];
        final int[] height = new int[MOST_PEOPLE];
        final int[] partners = new int[MOST_DOORS * MOST_PEOPLE];

        Passes(House house, Law law) {
            this.house = house;
            this.law = law;
        }

        /** Heights after so many months with one in boots, doors with some turned. */
        void look(int months, int wearer, int turned) {
            for (int p = 0; p < house.persons; p++) {
                height[p] = house.height(p, wearer, months);
            }
            for (int door = 0; door < house.doors; door++) {
                boolean isTurned = (turned >> door & 1) != 0;
                from[door] = isTurned ? house.to[door] : house.from[door];
                to[door] = isTurned ? house.from[door] : house.to[door];
            }
        }

        void weigh(int months, int wearer, int turned) {
            look(months, wearer, turned);
            for (int door = 0; door < house.doors; door++) {
                for (int p = 0; p < house.persons; p++) {
                    partners[door * MOST_PEOPLE + p] = partnersOf(door, p);
                }
            }
        }

        private int partnersOf(int door, int p) {
            int bits = 0;
            for (int q = 0; q < house.persons; q++) {
                if (q != p && isLawful(door, p, q)) {
                    bits |= 1 << q;
                }
            }
            return bits;
        }

        void onlyWith(int goer) {
            for (int door = 0; door < house.doors; door++) {
                for (int p = 0; p < house.persons; p++) {
                    if (p != goer) {
                        partners[door * MOST_PEOPLE + p] &= 1 << goer;
                    }
                }
            }
        }

        private boolean isLawful(int door, int p, int q) {
            int a = height[p];
            int b = height[q];
            int kind = house.kind[door];
            if (law.isTold()) {
                return law.value(a, b, door, kind, from[door], to[door]) != 0;
            }
            if (kind == UP) {
                return a > b;
            }
            return kind == DOWN ? a < b : a >= b;
        }

        /** Whether a change may be in an arrangement; it needs look() alone. */
        boolean mayBe(int code, int door, int p, int q) {
            if (!house.hasDoor(door) || !house.hasPerson(p) || !house.hasPerson(q) || p == q) {
                return false;
            }
            return roomIn(code, p) == from[door] && roomIn(code, q) == to[door] && isLawful(door, p, q);
        }

        int changed(int code, int door, int p, int q) {
            int other = from[door] ^ to[door];
            return code ^ other << 2 * p ^ other << 2 * q;
        }
    }

    /** The changes that may be in an arrangement, by doors, then p, then q, and what comes of each. */
    private static final class Steps {
        // Of seven people in two rooms twelve pairs at most face one another at a door.
        static final int MOST = 12 * MOST_DOORS;

        final int[] move = new int[MOST];
        final int[] next = new int[MOST];
        final int[] inRoom = new int[MOST_ROOMS];
        int count = 0;

        void list(Passes passes, int code) {
            count = 0;
            seat(passes.house.persons, code);
            for (int door = 0; door < passes.house.doors; door++) {
                listAt(passes, code, door);
            }
        }

        void seat(int persons, int code) {
            for (int room = 0; room < MOST_ROOMS; room++) {
                inRoom[room] = 0;
            }
            for (int p = 0; p < persons; p++) {
                inRoom[roomIn(code, p)] |= 1 << p;
            }
        }

        private void listAt(Passes passes, int code, int door) {
            int here = inRoom[passes.from[door]];
            int there = inRoom[passes.to[door]];
            if (here == 0 || there == 0) {
                return;
            }
            for (int p = 0; p < passes.house.persons; p++) {
                int able = (here >> p & 1) == 0 ? 0 : passes.partners[door * MOST_PEOPLE + p] & there;
                for (int q = 0; q < passes.house.persons; q++) {
                    if ((able >> q & 1) != 0 && count < MOST) {
                        move[count] = 100 * door + 10 * p + q;
                        next[count] = passes.changed(code, door, p, q);
                        count++;
                    }
                }
            }
        }
    }

    /** Arrangements that can come, nearest first. How many are in a room never changes, which keeps them few. */
    private static final class Search {
        // Seven people as 2, 2, 2 and 1 in four rooms: 7! / (2! 2! 2! 1!).
        static final int MOST = 630;
        // Three times as many and more, so that few arrangements want one and the same slot.
        static final int SLOT_BITS = 11, SLOTS = 1 << SLOT_BITS;
        // An odd number without a pattern, which strews like codes over all slots.
        static final int STREW = 0x9E3779B1;

        final Steps steps = new Steps();
        final int[] codes = new int[MOST];
        final int[] distance = new int[MOST];
        final int[] lead = new int[MOST];
        final int[] waits = new int[MOST];
        final int[] path = new int[MOST];
        final int[] order = new int[MOST];
        // One more than an arrangement's place among the codes; 0: the slot is free.
        final int[] slots = new int[SLOTS];
        int found = 0;

        void spreadOut(Passes passes, int start) {
            // No arrangement fits a mask of nothing with a bit.
            find(passes, start, 0, 1);
        }

        int fewestTill(Passes passes, int start, int mask, int bits) {
            int goal = find(passes, start, mask, bits);
            return goal < 0 ? NOT : distance[goal];
        }

        /** The place of the first arrangement found that has these bits under the mask; -1: none. */
        int find(Passes passes, int start, int mask, int bits) {
            forget();
            note(start, 0, 0);
            if ((start & mask) == bits) {
                return 0;
            }
            // What is found lengthens the walk, to MOST at most.
            for (int at = 0; at < found && at < MOST; at++) {
                steps.list(passes, codes[at]);
                for (int i = 0; i < steps.count; i++) {
                    int next = steps.next[i];
                    // Those nearest are walked by their first changes, so the first way found has the least one.
                    if (placeOf(next) < 0 && note(next, distance[at] + 1, at == 0 ? steps.move[i] : lead[at])
                            && (next & mask) == bits) {
                        return found - 1;
                    }
                }
            }
            return -1;
        }

        private void forget() {
            for (int i = 0; i < SLOTS; i++) {
                slots[i] = 0;
            }
            found = 0;
        }

        private boolean note(int code, int far, int firstMove) {
            if (found >= MOST) {
                return false;
            }
            codes[found] = code;
            distance[found] = far;
            lead[found] = firstMove;
            found++;
            slots[slotOf(code)] = found;
            return true;
        }

        /** Its place among the codes; -1: it was not found. */
        private int placeOf(int code) {
            return slots[slotOf(code)] - 1;
        }

        /** The slot in which an arrangement is, or the free one in which it would be; some are free always. */
        private int slotOf(int code) {
            int slot = code * STREW >>> 32 - SLOT_BITS;
            for (int tried = 1; tried < SLOTS && slots[slot] != 0 && codes[slots[slot] - 1] != code; tried++) {
                slot = slot + 1 & SLOTS - 1;
            }
            return slot;
        }

        /** Of all found: those in which no change may be. */
        int rests(Passes passes) {
            int resting = 0;
            for (int at = 0; at < found; at++) {
                steps.list(passes, codes[at]);
                if (steps.count == 0) {
                    resting++;
                }
            }
            return resting;
        }

        /** The longest way through all found, each taken when every way to it is known; NOT: one leads back. */
        int longest(Passes passes) {
            countWays(passes);
            int ready = 0;
            if (waits[0] == 0) {
                order[0] = 0;
                ready = 1;
            }
            int most = 0;
            for (int at = 0; at < ready && at < MOST; at++) {
                int here = order[at];
                most = Math.max(most, path[here]);
                steps.list(passes, codes[here]);
                for (int i = 0; i < steps.count; i++) {
                    int next = placeOf(steps.next[i]);
                    if (next < 0) {
                        continue;
                    }
                    path[next] = Math.max(path[next], path[here] + 1);
                    waits[next]--;
                    if (waits[next] == 0 && ready < MOST) {
                        order[ready] = next;
                        ready++;
                    }
                }
            }
            return ready < found ? NOT : most;
        }

        private void countWays(Passes passes) {
            for (int at = 0; at < found; at++) {
                waits[at] = 0;
                path[at] = 0;
            }
            for (int at = 0; at < found; at++) {
                steps.list(passes, codes[at]);
                for (int i = 0; i < steps.count; i++) {
                    int next = placeOf(steps.next[i]);
                    if (next >= 0) {
                        waits[next]++;
                    }
                }
            }
        }
    }

    /** An evening in thought, by lots. */
    private static final class Evening {
        int z = 0;
        int code = 0;
        int changed = 0;
        int restedAfter = NOT;

        void pass(Passes passes, Steps steps, int seed, int n, int start) {
            z = seed;
            code = start;
            changed = 0;
            steps.list(passes, code);
            restedAfter = steps.count == 0 ? 0 : NOT;
            for (int done = 1; done <= n; done++) {
                if (tryOne(passes, steps) && restedAfter == NOT) {
                    steps.list(passes, code);
                    restedAfter = steps.count == 0 ? done : NOT;
                }
            }
        }

        /** Whether the two drawn changed. */
        private boolean tryOne(Passes passes, Steps steps) {
            int door = draw(passes.house.doors);
            steps.seat(passes.house.persons, code);
            int here = steps.inRoom[passes.from[door]];
            int there = steps.inRoom[passes.to[door]];
            if (here == 0 || there == 0) {
                return false;
            }
            int p = oneOf(here, draw(Integer.bitCount(here)));
            int q = oneOf(there, draw(Integer.bitCount(there)));
            if (p < 0 || q < 0 || (passes.partners[door * MOST_PEOPLE + p] >> q & 1) == 0) {
                return false;
            }
            code = passes.changed(code, door, p, q);
            changed++;
            return true;
        }

        private int draw(int many) {
            z = z * 1103515245 + 12345;
            return many <= 0 ? 0 : (z >>> 8) % many;
        }

        /** By numbers the k-th of a set. */
        private static int oneOf(int set, int k) {
            int left = k;
            for (int p = 0; p < MOST_PEOPLE; p++) {
                if ((set >> p & 1) != 0) {
                    if (left == 0) {
                        return p;
                    }
                    left--;
                }
            }
            return NOBODY;
        }
    }

    /** Rooms and boots as they once were. */
    private static final class Image {
        final int[] place = new int[MOST_PEOPLE];
        int known = 0;
        int wearer = NOBODY;
        boolean isThere = false;

        int take(House house) {
            for (int p = 0; p < house.persons; p++) {
                place[p] = house.place[p];
            }
            known = house.persons;
            wearer = house.wearer;
            isThere = true;
            return known;
        }

        int layBack(House house) {
            if (!isThere) {
                return STATE;
            }
            for (int p = 0; p < known; p++) {
                house.place[p] = place[p];
            }
            house.wearer = wearer;
            return known;
        }
    }

    /** Changes of numbers: first those that may be undone, behind them those that may be done again. */
    private static final class Log {
        static final int MOST = 40;

        final int[] number = new int[MOST];
        final int[] what = new int[MOST];
        final int[] was = new int[MOST];
        final int[] became = new int[MOST];
        int done = 0;
        int undone = 0;

        void write(int ofNumber, int ofWhat, int before, int after) {
            if (done >= MOST) {
                forgetOldest();
            }
            number[done] = ofNumber;
            what[done] = ofWhat;
            was[done] = before;
            became[done] = after;
            done++;
            undone = 0;
        }

        private void forgetOldest() {
            for (int i = 1; i < done; i++) {
                number[i - 1] = number[i];
                what[i - 1] = what[i];
                was[i - 1] = was[i];
                became[i - 1] = became[i];
            }
            done--;
        }

        void takeBack(House house) {
            if (done > 0) {
                done--;
                undone++;
                house.setNumber(number[done], what[done], was[done]);
            }
        }

        void doAgain(House house) {
            if (undone > 0 && done < MOST) {
                house.setNumber(number[done], what[done], became[done]);
                done++;
                undone--;
            }
        }
    }

    /** Bodies kept by kind, what they do, and which of the kinds' bodies of acts ran. */
    private static final class Acts {
        static final int KINDS_OF_BODIES = 8;
        static final int MOST_BODIES = 50, MOST_TRACED = 24, MOST_DEPTH = 40;
        static final int LETS = 0, BARS = 1, TURNS = 2, TELLS = 3;
        // By kind: the one above; each above has a lower number, so that going up ends at DOOR.
        private static final int[] ABOVE = {-1, 0, 0, 2, 1, 3, 0, 6};
        // By kind, then act: the body of its own; 0: none. DOOR's lets and tells are those of its interfaces.
        private static final int[] OWN = {
            1, 10, 11, 2,
            20, 0, 0, 0,
            0, 30, 0, 0,
            0, 41, 40, 0,
            0, 0, 0, 50,
            0, 0, 60, 61,
            70, 0, 0, 0,
            81, 80, 0, 0};

        final int[] kinds = new int[MOST_BODIES];
        int bodies = 0;
        final int[] numbers = new int[MOST_TRACED];
        int ran = 0;
        int self = 0;

        boolean hasBody(int number) {
            return number >= 0 && number < bodies;
        }

        int addBody(int kind) {
            if (bodies >= MOST_BODIES) {
                return FULL;
            }
            kinds[bodies] = kind;
            bodies++;
            return bodies - 1;
        }

        /** The kind of a body; -1: there is none. */
        int kindOf(int number) {
            return hasBody(number) ? kinds[number] : -1;
        }

        static boolean isUnder(int kind, int top) {
            int k = kind;
            while (k > top && k < KINDS_OF_BODIES) {
                k = ABOVE[k];
            }
            return k == top;
        }

        int traced() {
            return Math.min(ran, MOST_TRACED);
        }

        int perform(int number, int act, int x) {
            ran = 0;
            if (!hasBody(number) || act < LETS || act > TELLS) {
                return 0;
            }
            self = number;
            return own(act, x, 0);
        }

        private int own(int act, int x, int depth) {
            return run(kinds[self], act, x, depth);
        }

        // All ways down are short, as the kinds stand; the guard holds for any.
        private int run(int kind, int act, int x, int depth) {
            int k = kind;
            while (k > 0 && OWN[4 * k + act] == 0) {
                k = ABOVE[k];
            }
            if (k < 0 || depth >= MOST_DEPTH) {
                return 0;
            }
            int number = OWN[4 * k + act];
            note(number);
            return number < 40 ? runUpper(number, x, depth + 1) : runLower(number, x, depth + 1);
        }

        private void note(int number) {
            if (ran < MOST_TRACED) {
                numbers[ran] = number;
            }
            ran++;
        }

        private int runUpper(int number, int x, int depth) {
            switch (number) {
                case 1:
                    return x + self;
                case 2:
                    return own(BARS, x, depth) - own(TURNS, 1, depth);
                case 10:
                    return own(LETS, x, depth) * 2;
                case 11:
                    return x ^ self;
                case 20:
                    return run(ABOVE[1], LETS, x, depth) + 3;
                default:
                    return -run(ABOVE[2], BARS, x, depth);
            }
        }

        private int runLower(int number, int x, int depth) {
            switch (number) {
                case 40:
                    return run(ABOVE[3], TURNS, x, depth) * 3;
                case 41:
                    return run(ABOVE[3], BARS, x + 1, depth);
                case 50:
                    return run(ABOVE[4], TELLS, x, depth) ^ 5;
                case 60:
                    return run(ABOVE[5], TURNS, x, depth) - own(LETS, 2, depth);
                case 61:
                    return run(ABOVE[5], TELLS, x, depth) + 1;
                case 70:
                    return run(ABOVE[6], LETS, x, depth) * 2;
                case 80:
                    return run(ABOVE[7], BARS, x, depth) + own(TURNS, 2, depth);
                default:
                    return run(ABOVE[7], LETS, x, depth) - 1;
            }
        }
    }

    /** Nothing, a body, or a row. */
    private static final class Shelf {
        static final int SORTS = 5;
        static final int BYTES = 0, SHORTS = 1, INTS = 2, LONGS = 3;
        static final int NO_ROW = -1;

        int bodyHeld = NOBODY;
        int sort = NO_ROW;
        int length = 0;
        final long[] elements = new long[MOST_ELEMENTS];

        boolean isEmpty() {
            return bodyHeld == NOBODY && sort == NO_ROW;
        }

        int rowRefusal() {
            if (isEmpty()) {
                return NOTHING_THERE;
            }
            return sort == NO_ROW ? OTHER_KIND : 0;
        }

        int bytesRefusal() {
            int refusal = rowRefusal();
            return refusal == 0 && sort != BYTES ? OTHER_KIND : refusal;
        }

        void holdBody(int body) {
            bodyHeld = body;
            sort = NO_ROW;
            length = 0;
        }

        void holdRow(int ofSort, int n) {
            bodyHeld = NOBODY;
            sort = ofSort;
            length = Math.min(n, MOST_ELEMENTS);
            for (int i = 0; i < length; i++) {
                elements[i] = 0;
            }
        }

        boolean hasPart(int i, int n) {
            return i >= 0 && n >= 0 && i <= length && n <= length - i;
        }

        /** An element; 0 behind the end. */
        long at(int i) {
            return i >= 0 && i < length ? elements[i] : 0;
        }

        void set(int i, long v) {
            if (i >= 0 && i < length) {
                elements[i] = narrowed(v);
            }
        }

        private long narrowed(long v) {
            switch (sort) {
                case BYTES:
                    return (byte) v;
                case SHORTS:
                    return (short) v;
                case INTS:
                    return (int) v;
                case LONGS:
                    return v;
                default:
                    return v != 0 ? 1 : 0;
            }
        }
    }
}
