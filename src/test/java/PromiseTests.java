/** Each promise by hand: ordinary inputs, the edges that the document names, wrong inputs. */
public final class PromiseTests {
    private static final int BAD = -1, NOT = -2, FULL = -3, STATE = -5, VOID = -2000000000;
    private static final int LEAST = Integer.MIN_VALUE, MOST = Integer.MAX_VALUE;

    private static int wrong = 0;
    private static int looked = 0;
    private static int promise = 0;

    private static void is(String call, long got, long due) {
        looked++;
        if (got != due) {
            wrong++;
            System.out.println("promise " + promise + ": " + call + " answered " + got + ", due is " + due);
        }
    }

    public static void main(String[] args) {
        constants();
        newObject();
        room();
        door();
        person();
        people();
        mend();
        wear();
        of();
        feed();
        law();
        lawFaults();
        lawValues();
        may();
        changes();
        change();
        led();
        reach();
        canBe();
        fewest();
        first();
        turn();
        boots();
        month();
        tries();
        neitherDrawn();
        grownLater();
        judge();
        seen();
        image();
        back();
        undo();
        redo();
        body();
        act();
        trace();
        keep();
        row();
        put();
        element();
        shift();
        taken();
        count();
        System.out.println("PromiseTests: " + looked + " answers looked at, " + wrong + " wrong");
        if (wrong != 0) {
            System.exit(1);
        }
    }

    // ---- houses that the tests begin with

    private static SmallerOut house(int rooms, int[] doors, int[] people) {
        SmallerOut x = new SmallerOut();
        for (int i = 0; i < rooms; i++) {
            x.room();
        }
        for (int i = 0; i < doors.length; i += 2) {
            x.door(doors[i], doors[i + 1]);
        }
        for (int i = 0; i < people.length; i += 2) {
            x.person(people[i], people[i + 1]);
        }
        return x;
    }

    /** Three rooms in a row, each with a door UP to the next; 0 is the tallest, in the first room. */
    private static SmallerOut stairs() {
        return house(3, new int[] {1, 0, 12, 0}, new int[] {30, 0, 20, 1, 10, 2});
    }

    /** Two rooms and doors UP both ways, so that the taller one can always go. */
    private static SmallerOut circle() {
        return house(2, new int[] {1, 0, 10, 0}, new int[] {30, 0, 20, 1});
    }

    private static int tell(SmallerOut x, String text) {
        for (int i = 0; i < text.length(); i++) {
            x.feed(text.charAt(i));
        }
        return x.law();
    }

    private static void bytes(SmallerOut x, int shelf, int... values) {
        x.row(shelf, 0, values.length);
        for (int i = 0; i < values.length; i++) {
            x.put(shelf, i, values[i]);
        }
    }

    // ---- rooms, doors, people

    private static void constants() {
        promise = 0;
        is("BAD", SmallerOut.BAD, -1);
        is("NOT", SmallerOut.NOT, -2);
        is("FULL", SmallerOut.FULL, -3);
        is("STATE", SmallerOut.STATE, -5);
        is("VOID", SmallerOut.VOID, -2000000000);
    }

    private static void newObject() {
        promise = 1;
        SmallerOut x = new SmallerOut();
        for (int what = 0; what <= 6; what++) {
            is("count(" + what + ")", x.count(what), 0);
        }
        is("of(0, 0)", x.of(0, 0), BAD);
        is("of(0, 10)", x.of(0, 10), BAD);
        is("of(0, 20)", x.of(0, 20), BAD);
        is("of(0, 30)", x.of(0, 30), 5);
        is("wear(-1)", x.wear(-1), -1);
        is("led(0)", x.led(0), 0);
        is("changes(-1)", x.changes(-1), 0);
        is("changes(0)", x.changes(0), BAD);
        is("reach(0)", x.reach(0), 1);
        is("reach(1)", x.reach(1), 1);
        is("reach(2)", x.reach(2), 0);
        is("back()", x.back(), STATE);
        is("undo()", x.undo(), STATE);
        is("redo()", x.redo(), STATE);
        is("trace(0)", x.trace(0), BAD);
        for (int shelf = 0; shelf < 6; shelf++) {
            is("taken(" + shelf + ", 0)", x.taken(shelf, 0), -11);
        }
    }

    private static void room() {
        promise = 2;
        SmallerOut x = new SmallerOut();
        for (int i = 0; i < 4; i++) {
            is("room()", x.room(), i);
            is("count(1)", x.count(1), i + 1);
        }
        is("room()", x.room(), FULL);
        is("room()", x.room(), FULL);
        is("count(1)", x.count(1), 4);
        is("of(3, 20)", x.of(3, 20), 0);
        is("of(4, 20)", x.of(4, 20), BAD);
    }

    private static void door() {
        promise = 3;
        SmallerOut x = house(3, new int[0], new int[0]);
        is("door(11, 0)", x.door(11, 0), BAD);
        is("door(0, 0)", x.door(0, 0), BAD);
        is("door(3, 0)", x.door(3, 0), BAD);
        is("door(30, 0)", x.door(30, 0), BAD);
        is("door(-1, 0)", x.door(-1, 0), BAD);
        is("door(-10, 0)", x.door(-10, 0), BAD);
        is("door(100, 0)", x.door(100, 0), BAD);
        is("door(101, 0)", x.door(101, 0), BAD);
        is("door(9, 0)", x.door(9, 0), BAD);
        is("door(1, -1)", x.door(1, -1), BAD);
        is("door(1, 3)", x.door(1, 3), BAD);
        is("door(MIN, 0)", x.door(LEAST, 0), BAD);
        is("door(MAX, 0)", x.door(MOST, 0), BAD);
        is("door(1, MIN)", x.door(1, LEAST), BAD);
        is("count(2)", x.count(2), 0);
        is("door(1, 0)", x.door(1, 0), 0);
        is("door(1, 1)", x.door(1, 1), 1);
        is("door(21, 2)", x.door(21, 2), 2);
        is("door(10, 0)", x.door(10, 0), 3);
        is("count(2)", x.count(2), 4);
        is("door(20, 1)", x.door(20, 1), 4);
        is("door(2, 0)", x.door(2, 0), FULL);
        is("door(22, 0), BAD ahead of FULL", x.door(22, 0), BAD);
        is("door(2, 3), BAD ahead of FULL", x.door(2, 3), BAD);
        is("count(2)", x.count(2), 5);
        is("of(0, 10)", x.of(0, 10), 1);
        is("of(2, 10)", x.of(2, 10), 21);
        is("of(4, 10)", x.of(4, 10), 20);
        is("of(1, 11)", x.of(1, 11), 1);
        is("of(2, 11)", x.of(2, 11), 2);
    }

    private static void person() {
        promise = 4;
        SmallerOut x = house(2, new int[0], new int[0]);
        is("person(0, 0)", x.person(0, 0), BAD);
        is("person(100, 0)", x.person(100, 0), BAD);
        is("person(1, 2)", x.person(1, 2), BAD);
        is("person(1, -1)", x.person(1, -1), BAD);
        is("person(MIN, 0)", x.person(LEAST, 0), BAD);
        is("person(1, MAX)", x.person(1, MOST), BAD);
        is("count(0)", x.count(0), 0);
        is("person(1, 0)", x.person(1, 0), 0);
        is("person(99, 1)", x.person(99, 1), 1);
        is("of(0, 0)", x.of(0, 0), 1);
        is("of(1, 0)", x.of(1, 0), 99);
        is("of(0, 1)", x.of(0, 1), 0);
        is("of(1, 1)", x.of(1, 1), 1);
        is("of(1, 2)", x.of(1, 2), 0);
        for (int i = 2; i < 7; i++) {
            is("person(50, 0)", x.person(50, 0), i);
        }
        is("person(50, 0)", x.person(50, 0), FULL);
        is("person(100, 0), BAD ahead of FULL", x.person(100, 0), BAD);
        is("person(50, 2), BAD ahead of FULL", x.person(50, 2), BAD);
        is("count(0)", x.count(0), 7);
    }

    private static void people() {
        promise = 5;
        SmallerOut x = house(2, new int[0], new int[0]);
        bytes(x, 0, 10, 0, 20, 1, 30, 0, 40);
        is("people(-1, 0, 1)", x.people(-1, 0, 1), BAD);
        is("people(6, 0, 1)", x.people(6, 0, 1), BAD);
        is("people(0, 0, 0)", x.people(0, 0, 0), BAD);
        is("people(0, 0, 8)", x.people(0, 0, 8), BAD);
        is("people(0, 0, MIN)", x.people(0, 0, LEAST), BAD);
        is("people(0, -1, 2)", x.people(0, -1, 2), 0);
        is("people(0, MIN, 2)", x.people(0, LEAST, 2), 0);
        is("people(0, MAX, 7)", x.people(0, MOST, 7), 0);
        is("people(0, 7, 2)", x.people(0, 7, 2), 0);
        is("people(0, 6, 2), within a two", x.people(0, 6, 2), 0);
        is("people(1, 0, 2), the row is missing", x.people(1, 0, 2), 0);
        x.body(0);
        x.keep(2, 0);
        is("people(2, 0, 2), a body", x.people(2, 0, 2), -12);
        x.row(3, 1, 4);
        is("people(3, 0, 2), shorts", x.people(3, 0, 2), -12);
        is("people(3, -1, 2), shorts", x.people(3, -1, 2), -12);
        x.row(3, 4, 4);
        is("people(3, 0, 2), booleans", x.people(3, 0, 2), -12);
        is("people(3, 0, 0), BAD ahead of -12", x.people(3, 0, 0), BAD);
        is("count(0)", x.count(0), 0);
        is("people(0, 2, 1)", x.people(0, 2, 1), 1);
        is("of(0, 0)", x.of(0, 0), 20);
        is("of(0, 1)", x.of(0, 1), 1);
        is("people(0, 0, 7), ends within a two", x.people(0, 0, 7), 3);
        is("of(1, 0)", x.of(1, 0), 10);
        is("of(3, 0)", x.of(3, 0), 30);
        is("of(3, 1)", x.of(3, 1), 0);
        is("count(0)", x.count(0), 4);
        is("of(2, 0)", x.of(2, 0), 20);
        is("of(2, 1)", x.of(2, 1), 1);
        bytes(x, 0, 10, 0, 0, 1, 30, 0);
        is("people(0, 0, 3), one of size 0", x.people(0, 0, 3), 1);
        bytes(x, 0, 10, 2, 30, 0);
        is("people(0, 0, 2), one in no room", x.people(0, 0, 2), 0);
        bytes(x, 0, 200, 0);
        is("people(0, 0, 1), a byte below 0", x.people(0, 0, 1), 0);
        bytes(x, 0, 10, 255);
        is("people(0, 0, 1), a room below 0", x.people(0, 0, 1), 0);
        bytes(x, 0, 99, 1, 98, 1, 97, 1);
        is("people(0, 0, 3), full", x.people(0, 0, 3), 2);
        is("of(6, 0)", x.of(6, 0), 98);
        is("people(0, 0, 3), full", x.people(0, 0, 3), 0);
        is("count(0)", x.count(0), 7);
        SmallerOut y = house(1, new int[0], new int[0]);
        bytes(y, 5, 1, 0, 2, 0, 3, 0, 4, 0, 5, 0, 6, 0, 7, 0);
        is("people(5, 0, 7)", y.people(5, 0, 7), 7);
        is("of(6, 0)", y.of(6, 0), 7);
    }

    private static void mend() {
        promise = 6;
        SmallerOut x = house(2, new int[] {1, 0}, new int[] {30, 0, 20, 1});
        is("mend(2, 0, 5)", x.mend(2, 0, 5), BAD);
        is("mend(-1, 0, 5)", x.mend(-1, 0, 5), BAD);
        is("mend(2, 1, 5)", x.mend(2, 1, 5), BAD);
        is("mend(1, 2, 0)", x.mend(1, 2, 0), BAD);
        is("mend(1, 3, 5)", x.mend(1, 3, 5), BAD);
        is("mend(-1, 3, 5)", x.mend(-1, 3, 5), BAD);
        is("mend(0, 4, 1)", x.mend(0, 4, 1), BAD);
        is("mend(0, -1, 1)", x.mend(0, -1, 1), BAD);
        is("mend(0, 0, 0)", x.mend(0, 0, 0), BAD);
        is("mend(0, 0, 100)", x.mend(0, 0, 100), BAD);
        is("mend(0, 1, -1)", x.mend(0, 1, -1), BAD);
        is("mend(0, 1, 10)", x.mend(0, 1, 10), BAD);
        is("mend(0, 2, -1)", x.mend(0, 2, -1), BAD);
        is("mend(0, 2, 3)", x.mend(0, 2, 3), BAD);
        is("mend(0, 3, -1)", x.mend(0, 3, -1), BAD);
        is("mend(0, 3, 21)", x.mend(0, 3, 21), BAD);
        is("mend(MIN, MIN, MIN)", x.mend(LEAST, LEAST, LEAST), BAD);
        is("count(4)", x.count(4), 0);
        is("mend(0, 0, 1)", x.mend(0, 0, 1), 30);
        is("mend(0, 0, 99)", x.mend(0, 0, 99), 1);
        is("of(0, 0)", x.of(0, 0), 99);
        is("of(1, 0)", x.of(1, 0), 20);
        is("mend(1, 1, 9)", x.mend(1, 1, 9), 0);
        is("mend(1, 1, 0)", x.mend(1, 1, 0), 9);
        is("mend(1, 1, 4)", x.mend(1, 1, 4), 0);
        is("of(1, 2)", x.of(1, 2), 4);
        is("of(0, 2)", x.of(0, 2), 0);
        is("mend(0, 2, 2)", x.mend(0, 2, 2), 0);
        is("of(0, 11)", x.of(0, 11), 2);
        is("mend(0, 2, 0)", x.mend(0, 2, 0), 2);
        is("mend(0, 2, 1)", x.mend(0, 2, 1), 0);
        is("of(0, 11)", x.of(0, 11), 1);
        is("mend(0, 3, 0)", x.mend(0, 3, 0), 5);
        is("mend(0, 3, 20)", x.mend(0, 3, 20), 0);
        is("of(0, 30)", x.of(0, 30), 20);
        is("count(4)", x.count(4), 10);
        is("mend(0, 0, 99), as it is", x.mend(0, 0, 99), 99);
        is("mend(1, 1, 4), as it is", x.mend(1, 1, 4), 4);
        is("mend(0, 2, 1), as it is", x.mend(0, 2, 1), 1);
        is("mend(0, 3, 20), as it is", x.mend(0, 3, 20), 20);
        is("of(0, 0)", x.of(0, 0), 99);
        is("of(1, 2)", x.of(1, 2), 4);
        is("of(0, 11)", x.of(0, 11), 1);
        is("of(0, 30)", x.of(0, 30), 20);
        is("count(4), no number has changed", x.count(4), 10);
    }

    private static void wear() {
        promise = 7;
        SmallerOut x = house(1, new int[0], new int[] {30, 0, 20, 0});
        is("wear(2)", x.wear(2), VOID);
        is("wear(-2)", x.wear(-2), VOID);
        is("wear(MIN)", x.wear(LEAST), VOID);
        is("wear(MAX)", x.wear(MOST), VOID);
        is("wear(1)", x.wear(1), -1);
        is("of(1, 3)", x.of(1, 3), 25);
        is("wear(5)", x.wear(5), VOID);
        is("wear(0)", x.wear(0), 1);
        is("of(0, 3)", x.of(0, 3), 35);
        is("of(1, 3)", x.of(1, 3), 20);
        is("wear(0)", x.wear(0), 0);
        is("wear(-1)", x.wear(-1), 0);
        is("of(0, 3)", x.of(0, 3), 30);
        is("wear(-1)", x.wear(-1), -1);
    }

    private static void of() {
        promise = 8;
        SmallerOut x = house(3, new int[] {20, 1}, new int[] {30, 2, 20, 1, 10, 2});
        is("of(0, 0)", x.of(0, 0), 30);
        is("of(0, 1)", x.of(0, 1), 2);
        is("of(0, 2)", x.of(0, 2), 0);
        is("of(0, 3)", x.of(0, 3), 30);
        is("of(0, 10)", x.of(0, 10), 20);
        is("of(0, 11)", x.of(0, 11), 1);
        is("of(0, 20)", x.of(0, 20), 0);
        is("of(1, 20)", x.of(1, 20), 2);
        is("of(2, 20)", x.of(2, 20), 5);
        is("of(0, 30)", x.of(0, 30), 5);
        for (int what : new int[] {0, 1, 2, 3}) {
            is("of(3, " + what + ")", x.of(3, what), BAD);
            is("of(-1, " + what + ")", x.of(-1, what), BAD);
            is("of(7, " + what + ")", x.of(7, what), BAD);
        }
        for (int what : new int[] {10, 11, 30}) {
            is("of(1, " + what + ")", x.of(1, what), BAD);
            is("of(-1, " + what + ")", x.of(-1, what), BAD);
        }
        is("of(3, 20)", x.of(3, 20), BAD);
        is("of(-1, 20)", x.of(-1, 20), BAD);
        for (int what : new int[] {-1, 4, 9, 12, 19, 21, 29, 31, LEAST, MOST}) {
            is("of(0, " + what + ")", x.of(0, what), BAD);
        }
    }

    private static void feed() {
        promise = 9;
        SmallerOut x = new SmallerOut();
        is("feed(-1)", x.feed(-1), BAD);
        is("feed(256)", x.feed(256), BAD);
        is("feed(MAX)", x.feed(MOST), BAD);
        is("count(3)", x.count(3), 0);
        is("feed(0)", x.feed(0), 1);
        is("feed(255)", x.feed(255), 2);
        for (int i = 3; i <= 120; i++) {
            is("feed(49)", x.feed(49), i);
        }
        is("feed(49)", x.feed(49), FULL);
        is("feed(256), BAD ahead of FULL", x.feed(256), BAD);
        is("count(3)", x.count(3), 120);
        is("law()", x.law(), -100);
        is("feed(49)", x.feed(49), 1);
    }

    private static void law() {
        promise = 10;
        SmallerOut x = circle();
        is("law(), no bytes", x.law(), -100);
        is("law() 1", tell(x, "1"), 1);
        is("count(3)", x.count(3), 0);
        is("may(1, 10), not as the kind has it", x.may(1, 10), 1);
        is("may(0, 1)", x.may(0, 1), 1);
        is("law() 0", tell(x, "0"), 1);
        is("may(0, 1)", x.may(0, 1), 0);
        is("law() with a fault", tell(x, "1+"), -102);
        is("count(3)", x.count(3), 0);
        is("may(0, 1), the law before stays", x.may(0, 1), 0);
        is("law(), no bytes", x.law(), -100);
        is("may(0, 1), the law before stays", x.may(0, 1), 0);
        is("law() a<b", tell(x, "a<b"), 1);
        is("may(0, 1)", x.may(0, 1), 0);
        is("law() a>b", tell(x, "a>b"), 1);
        is("may(0, 1)", x.may(0, 1), 1);
        StringBuilder full = new StringBuilder("1");
        while (full.length() + 2 <= 119) {
            full.append("+1");
        }
        is("law() of 119 bytes", tell(x, full.toString()), 1);
        is("law() of 120 bytes", tell(x, "0" + full), 1);
        is("law() of 120 bytes, ends too early", tell(x, full + "+"), -220);
        is("law() of 60 lines, ends too early", tell(x, "1;".repeat(60)), -220);
        is("law() of 60 lines", tell(x, "1;".repeat(59) + "1"), 1);
        is("law() of 120 bytes, each a sign", tell(x, "!1" + "+0".repeat(58) + "+1"), 1);
        is("may(0, 1), by its last byte", x.may(0, 1), 1);
        is("law() of 120 bytes, each a sign", tell(x, "!1" + "+1".repeat(58) + "*0"), 1);
        is("may(0, 1), by its last byte", x.may(0, 1), 1);
        is("law() of 120 bytes, each a sign", tell(x, "!1" + "+0".repeat(58) + "+0"), 1);
        is("may(0, 1), by its last byte", x.may(0, 1), 0);
    }

    /** By a mark of where the fault is: the byte behind ^; none: it ends too early. */
    private static void fault(SmallerOut x, String marked) {
        int at = marked.indexOf('^');
        String text = marked.replace("^", "");
        is("law() " + marked, tell(x, text), -100 - (at < 0 ? text.length() : at));
    }

    private static void lawFaults() {
        promise = 10;
        SmallerOut x = new SmallerOut();
        String[] faults = {
            "^+1", "^)", "^;", "^?", "^ 1", "^c", "^A", "^<", "^=1", "^|1", "^&1", "^*1", "^%1", "1^ ", "1^a", "a^1", "a^b",
            "1^(", "1^!", "a^\u00e9", "a^\u0000", "1234^5", "0000^0", "a/^/b", "a+^*b", "a%^%b",
            "", "1+", "1-", "1*", "1/", "a%", "!", "-", "(", "(1", "(1+", "1<", "1|", "1&", "1?", "1;", "1?1;", "!!!!!!",
            "(1^;1)", "(1^?1)", "(^)", "1^)", "(1)^)", "(1)^1", "(1)^(",
            "1<2^<3", "1=2^>3", "1<^<", "(1<2)<3^=4", "1<-2^<1", "1|^|1", "1&^&",
            "1?^?1", "1?1^?1", "1?1;1?1^?1", "1?^;1", "1;^;", "^;1",
            "!!!!!!^!a", "((((((^(", "------^-1", "(!-(!-^(", "!(!(!(^!", "1?((((((^(", "1;((((((^-", "((((((1))))))^)",
        };
        for (String marked : faults) {
            fault(x, marked);
        }
        String[] right = {
            "1", "0", "9999", "0000", "a", "b", "d", "k", "i", "j", "!a", "-a", "(a)", "a|b|d", "a&b&d", "a<b", "a=b", "a>b",
            "a+b-d", "a*b/d%k", "a?b", "a;b", "a?b;d?k;i", "!!!!!!a", "((((((a))))))", "------1",
            "!!!!!!a+!!!!!!b", "((((((a))))))*((((((b))))))", "(a<b)<(a>b)", "a<b|a>b&a=b", "1--1", "(!-(!-a))",
            "!1<2", "(1|2)?(3&4)", "1;2;3", "!!!!!!a;!!!!!!b", "(((a)))", "1234+5678",
        };
        for (String text : right) {
            is("law() " + text, tell(x, text), 1);
        }
    }

    /** What a text says: it is law that the text is the value, so that one change may be if it is. */
    private static void value(SmallerOut x, String text, int due) {
        String is = due < 0 ? "-" + -due : "" + due;
        is("law()", tell(x, "(" + text + ")=" + is), 1);
        is(text + " is " + due, x.may(1, 1), 1);
        is("law()", tell(x, "((" + text + ")=" + is + ")=0"), 1);
        is(text + " is not else than " + due, x.may(1, 1), 0);
    }

    private static void lawValues() {
        promise = 10;
        // At door 1, DOWN, 0 (height 30) goes from room 2 to room 1, where 1 (height 20) is.
        SmallerOut x = house(3, new int[] {1, 0, 21, 1}, new int[] {30, 2, 20, 1});
        value(x, "a", 30);
        value(x, "b", 20);
        value(x, "d", 1);
        value(x, "k", 1);
        value(x, "i", 2);
        value(x, "j", 1);
        x.mend(1, 2, 2);
        value(x, "k", 2);
        x.wear(1);
        value(x, "b", 25);
        x.wear(-1);
        value(x, "1+2*3", 7);
        value(x, "(1+2)*3", 9);
        value(x, "7-2-1", 4);
        value(x, "7-2+1", 6);
        value(x, "100/7/2", 7);
        value(x, "100/7*2", 28);
        value(x, "7%4*2", 6);
        value(x, "-7/2", -3);
        value(x, "-7%2", -1);
        value(x, "7/-2", -3);
        value(x, "7%-2", 1);
        value(x, "7/0", 0);
        value(x, "7%0", 0);
        value(x, "0-7", -7);
        value(x, "--7", 7);
        value(x, "!7", 0);
        value(x, "!0", 1);
        value(x, "!!7", 1);
        value(x, "-!0", -1);
        value(x, "!-1+1", 1);
        value(x, "3|0", 1);
        value(x, "0|0", 0);
        value(x, "0|4", 1);
        value(x, "0|0|2", 1);
        value(x, "3&4", 1);
        value(x, "3&0", 0);
        value(x, "0&3", 0);
        value(x, "1&1&0", 0);
        value(x, "1|1&0", 1);
        value(x, "0&1|1", 1);
        value(x, "0&(1|1)", 0);
        value(x, "2<3", 1);
        value(x, "3<3", 0);
        value(x, "3=3", 1);
        value(x, "3=4", 0);
        value(x, "4>3", 1);
        value(x, "3>3", 0);
        value(x, "1+1<3", 1);
        value(x, "-1<0", 1);
        value(x, "5|1<0", 1);
        value(x, "2&2=2", 1);
        value(x, "(2&2)=2", 0);
        value(x, "(5)", 5);
        value(x, "0099", 99);
        // 2 to the 31st wraps to -2147483648; that by -1 wraps to itself, and nothing is left.
        value(x, "8192*8192*32<0", 1);
        value(x, "8192*8192*32-1>0", 1);
        value(x, "8192*8192*32/-1=8192*8192*32", 1);
        value(x, "8192*8192*32%-1", 0);
        value(x, "8192*8192*64", 0);
        value(x, "-(8192*8192*32)<0", 1);
        int[] lines = {
            tellMay(x, "0?1"), 0, tellMay(x, "1?1"), 1, tellMay(x, "2?0;1"), 0, tellMay(x, "0?1;0"), 0, tellMay(x, "0?0;1"), 1,
            tellMay(x, "0?1;0?1"), 0, tellMay(x, "0?0;1?5;0"), 1, tellMay(x, "0;1"), 0, tellMay(x, "1;0"), 1,
            tellMay(x, "1|0?0|1"), 1, tellMay(x, "0|0?0|1"), 0, tellMay(x, "1?0&1"), 0, tellMay(x, "-1"), 1,
            tellMay(x, "a>b?0;1"), 0, tellMay(x, "a<b?0;1"), 1, tellMay(x, "0?1;0?1;0?1;d=1"), 1,
        };
        for (int i = 0; i < lines.length; i += 2) {
            is("lines " + i / 2, lines[i], lines[i + 1]);
        }
    }

    private static int tellMay(SmallerOut x, String text) {
        is("law() " + text, tell(x, text), 1);
        return x.may(1, 1);
    }

    // ---- changes

    private static void may() {
        promise = 11;
        SmallerOut x = house(2, new int[] {1, 0, 1, 1, 1, 2}, new int[] {30, 0, 20, 1, 30, 1, 40, 1});
        int[][] due = {{1, 0, 0}, {0, 0, 1}, {1, 1, 0}};
        for (int door = 0; door < 3; door++) {
            for (int q = 1; q <= 3; q++) {
                is("may(" + door + ", " + q + ")", x.may(door, q), due[door][q - 1]);
                is("may(" + door + ", " + 10 * q + "), not there", x.may(door, 10 * q), 0);
            }
            is("may(" + door + ", 12), q not there", x.may(door, 12), 0);
        }
        is("may(-1, 1)", x.may(-1, 1), BAD);
        is("may(3, 1)", x.may(3, 1), BAD);
        is("may(0, 11)", x.may(0, 11), BAD);
        is("may(0, 0)", x.may(0, 0), BAD);
        is("may(0, 4)", x.may(0, 4), BAD);
        is("may(0, 41)", x.may(0, 41), BAD);
        is("may(0, 101)", x.may(0, 101), BAD);
        is("may(0, -1)", x.may(0, -1), BAD);
        is("may(0, MIN)", x.may(0, LEAST), BAD);
        is("may(MAX, MAX)", x.may(MOST, MOST), BAD);
        x.wear(1);
        is("may(0, 1), 30 and 25", x.may(0, 1), 1);
        x.mend(0, 3, 10);
        is("may(0, 1), alike", x.may(0, 1), 0);
        is("may(2, 1), alike", x.may(2, 1), 1);
        x.mend(0, 3, 11);
        is("may(2, 1), 30 and 31", x.may(2, 1), 0);
        is("may(1, 1), 30 and 31", x.may(1, 1), 1);
    }

    private static void changes() {
        promise = 12;
        SmallerOut x = house(2, new int[] {1, 0, 10, 0, 1, 2}, new int[] {20, 1, 30, 0, 40, 0, 30, 1});
        // Door 0 UP from room 0 (1: 30, 2: 40) to room 1 (0: 20, 3: 30); door 1 back; door 2 ALIKE.
        int[] told = {10, 20, 23, 210, 213, 220, 223};
        is("changes(-1)", x.changes(-1), told.length);
        for (int i = 0; i < told.length; i++) {
            is("changes(" + i + ")", x.changes(i), told[i]);
        }
        is("changes(7)", x.changes(7), BAD);
        is("changes(-2)", x.changes(-2), BAD);
        is("changes(MIN)", x.changes(LEAST), BAD);
        is("changes(MAX)", x.changes(MOST), BAD);
        SmallerOut y = circle();
        is("changes(-1)", y.changes(-1), 1);
        is("changes(0)", y.changes(0), 1);
        y.change(0, 1);
        is("changes(-1)", y.changes(-1), 1);
        is("changes(0)", y.changes(0), 101);
        SmallerOut z = house(2, new int[] {1, 2, 10, 2, 1, 2, 10, 2, 1, 2},
                new int[] {9, 0, 9, 0, 9, 0, 9, 1, 9, 1, 9, 1, 9, 1});
        is("changes(-1), five doors of twelve", z.changes(-1), 60);
        is("changes(59)", z.changes(59), 426);
        is("changes(60)", z.changes(60), BAD);
    }

    private static void change() {
        promise = 13;
        SmallerOut x = stairs();
        is("change(-1, 1)", x.change(-1, 1), BAD);
        is("change(2, 1)", x.change(2, 1), BAD);
        is("change(0, 3)", x.change(0, 3), BAD);
        is("change(0, 0)", x.change(0, 0), BAD);
        is("change(0, MIN)", x.change(0, LEAST), BAD);
        is("change(0, 10)", x.change(0, 10), NOT);
        is("change(0, 2)", x.change(0, 2), NOT);
        is("led(0)", x.led(0), 0);
        is("change(0, 1)", x.change(0, 1), 1);
        is("of(0, 1)", x.of(0, 1), 1);
        is("of(1, 1)", x.of(1, 1), 0);
        is("of(2, 1)", x.of(2, 1), 2);
        is("change(0, 1)", x.change(0, 1), NOT);
        is("change(1, 2)", x.change(1, 2), 2);
        is("of(0, 1)", x.of(0, 1), 2);
        is("of(2, 1)", x.of(2, 1), 1);
        is("count(4), no change of numbers", x.count(4), 0);
    }

    private static void led() {
        promise = 14;
        SmallerOut x = stairs();
        is("led(1)", x.led(1), STATE);
        is("led(0)", x.led(0), 0);
        is("led(2)", x.led(2), BAD);
        is("led(-1)", x.led(-1), BAD);
        x.change(0, 1);
        is("led(1)", x.led(1), 1);
        x.change(1, 2);
        is("led(1)", x.led(1), 102);
        x.change(0, 12);
        is("led(1)", x.led(1), 12);
        is("led(0)", x.led(0), 3);
        x.change(0, 12);
        is("led(1), that was not", x.led(1), 12);
        is("led(0)", x.led(0), 3);
        x.image();
        x.back();
        is("led(0)", x.led(0), 3);
    }

    // ---- what can come

    private static void reach() {
        promise = 15;
        SmallerOut x = stairs();
        // The taller ones go on, one door at a time, till the three are the other way round: all six orders come.
        is("reach(0)", x.reach(0), 6);
        is("reach(1)", x.reach(1), 1);
        is("reach(2)", x.reach(2), 3);
        is("reach(-1)", x.reach(-1), BAD);
        is("reach(3)", x.reach(3), BAD);
        is("reach(MIN)", x.reach(LEAST), BAD);
        x.change(0, 1);
        is("reach(0)", x.reach(0), 3);
        is("reach(2)", x.reach(2), 2);
        SmallerOut y = circle();
        is("reach(0)", y.reach(0), 2);
        is("reach(1)", y.reach(1), 0);
        is("reach(2)", y.reach(2), NOT);
        // 0 leaves room 0 for 1 or 2 and can not come back: two rests, neither of them the other's.
        SmallerOut z = house(3, new int[] {1, 0, 2, 0}, new int[] {30, 0, 20, 1, 20, 2});
        is("reach(0)", z.reach(0), 3);
        is("reach(1)", z.reach(1), 2);
        is("reach(2)", z.reach(2), 1);
        // A circle that begins behind the first change alone.
        SmallerOut w = house(4, new int[] {1, 0, 12, 2, 21, 2}, new int[] {30, 0, 20, 1, 20, 2});
        is("reach(0)", w.reach(0), 6);
        is("reach(2)", w.reach(2), NOT);
        SmallerOut v = house(4, new int[] {1, 2, 12, 2, 23, 2, 30, 2},
                new int[] {5, 0, 5, 0, 5, 1, 5, 1, 5, 2, 5, 2, 5, 3});
        is("reach(0), the most there can be", v.reach(0), 630);
        is("reach(1)", v.reach(1), 0);
        is("reach(2)", v.reach(2), NOT);
        is("reach(0), again", v.reach(0), 630);
        SmallerOut u = house(2, new int[] {1, 0}, new int[] {9, 0, 8, 0, 7, 0, 6, 1, 5, 1, 4, 1, 3, 1});
        is("reach(0)", u.reach(0), 35);
        is("reach(1)", u.reach(1), 1);
        is("reach(2)", u.reach(2), 12);
        // By this law only the tallest goes, once; nothing of the longer evening may be left.
        tell(u, "a=9");
        is("reach(0)", u.reach(0), 5);
        is("reach(1)", u.reach(1), 4);
        is("reach(2)", u.reach(2), 1);
        is("reach(2), again", u.reach(2), 1);
    }

    private static void canBe() {
        promise = 16;
        SmallerOut x = stairs();
        is("canBe(0)", x.canBe(0), 7);
        is("canBe(1)", x.canBe(1), 7);
        is("canBe(3)", x.canBe(3), BAD);
        is("canBe(-1)", x.canBe(-1), BAD);
        is("canBe(MIN)", x.canBe(LEAST), BAD);
        x.change(0, 1);
        is("canBe(0)", x.canBe(0), 6);
        is("canBe(1)", x.canBe(1), 3);
        is("canBe(2)", x.canBe(2), 7);
        SmallerOut y = house(4, new int[] {32, 1}, new int[] {5, 3, 9, 2, 1, 0});
        is("canBe(0)", y.canBe(0), 12);
        is("canBe(2)", y.canBe(2), 1);
        is("canBe(1)", y.canBe(1), 12);
        is("of(0, 1), in thought alone", y.of(0, 1), 3);
    }

    private static void fewest() {
        promise = 17;
        SmallerOut x = stairs();
        is("fewest(1, 0, -1)", x.fewest(1, 0, -1), 0);
        is("fewest(1, 1, -1)", x.fewest(1, 1, -1), 1);
        is("fewest(1, 2, -1)", x.fewest(1, 2, -1), 2);
        is("fewest(2, 2, -1)", x.fewest(2, 2, -1), 1);
        is("fewest(4, 0, -1)", x.fewest(4, 0, -1), 2);
        is("fewest(3, 0, -1)", x.fewest(3, 0, -1), NOT);
        is("fewest(7, 0, -1)", x.fewest(7, 0, -1), NOT);
        is("fewest(1, 2, 0)", x.fewest(1, 2, 0), 2);
        is("fewest(1, 2, 1)", x.fewest(1, 2, 1), NOT);
        is("fewest(4, 0, 2)", x.fewest(4, 0, 2), 2);
        is("fewest(1, 0, 2)", x.fewest(1, 0, 2), 0);
        is("fewest(4, 0, 1), 1 goes out of the way", x.fewest(4, 0, 1), NOT);
        is("fewest(2, 0, 0)", x.fewest(2, 0, 0), 1);
        is("fewest(2, 0, 2)", x.fewest(2, 0, 2), NOT);
        is("fewest(0, 0, -1)", x.fewest(0, 0, -1), BAD);
        is("fewest(8, 0, -1)", x.fewest(8, 0, -1), BAD);
        is("fewest(-1, 0, -1)", x.fewest(-1, 0, -1), BAD);
        is("fewest(MIN, 0, -1)", x.fewest(LEAST, 0, -1), BAD);
        is("fewest(1, 3, -1)", x.fewest(1, 3, -1), BAD);
        is("fewest(1, -1, -1)", x.fewest(1, -1, -1), BAD);
        is("fewest(1, 0, -2)", x.fewest(1, 0, -2), BAD);
        is("fewest(1, 0, 3)", x.fewest(1, 0, 3), BAD);
        is("fewest(1, 0, MAX)", x.fewest(1, 0, MOST), BAD);
        // Two must leave room 0 for room 1: 0 alone has to come back for 1 first; the smaller ones bring one only.
        SmallerOut y = house(2, new int[] {1, 0}, new int[] {30, 0, 31, 0, 5, 1, 6, 1});
        is("fewest(3, 1, -1)", y.fewest(3, 1, -1), 2);
        is("fewest(3, 1, 0)", y.fewest(3, 1, 0), 3);
        is("fewest(3, 1, 1)", y.fewest(3, 1, 1), NOT);
        is("fewest(3, 1, 2)", y.fewest(3, 1, 2), NOT);
        is("fewest(12, 0, -1)", y.fewest(12, 0, -1), 2);
        is("fewest(1, 1, 2)", y.fewest(1, 1, 2), 1);
        SmallerOut z = new SmallerOut();
        is("fewest(1, 0, -1), nobody", z.fewest(1, 0, -1), BAD);
    }

    private static void first() {
        promise = 18;
        SmallerOut x = stairs();
        is("first(1, 2)", x.first(1, 2), 1);
        is("first(4, 0)", x.first(4, 0), 112);
        is("first(4, 1)", x.first(4, 1), 112);
        is("first(1, 0)", x.first(1, 0), STATE);
        is("first(7, 0)", x.first(7, 0), NOT);
        is("first(0, 0)", x.first(0, 0), BAD);
        is("first(8, 0)", x.first(8, 0), BAD);
        is("first(1, 3)", x.first(1, 3), BAD);
        is("first(1, -1)", x.first(1, -1), BAD);
        // 0 comes to room 3 by 1 (door 0, later 2) or by 2 (door 1, later 3), in two changes each: door 0 is least.
        SmallerOut y = house(4, new int[] {1, 0, 2, 0, 13, 0, 23, 0}, new int[] {30, 0, 20, 1, 20, 2, 10, 3});
        is("first(1, 3)", y.first(1, 3), 1);
        is("first(8, 0)", y.first(8, 0), 213);
        y.mend(1, 0, 40);
        is("first(1, 3)", y.first(1, 3), 102);
        // The least door does nothing for the goal, though it may be; of those that do, p and then q are least.
        SmallerOut z = house(3, new int[] {1, 0, 2, 0}, new int[] {30, 0, 31, 0, 10, 1, 10, 2, 10, 2});
        is("first(2, 2)", z.first(2, 2), 113);
        is("first(8, 0)", z.first(8, 0), 103);
        is("first(24, 0)", z.first(24, 0), 103);
        is("first(3, 2)", z.first(3, 2), 103);
    }

    private static void turn() {
        promise = 19;
        SmallerOut x = stairs();
        is("turn(1, 2)", x.turn(1, 2), 0);
        is("turn(3, 0)", x.turn(3, 0), NOT);
        is("turn(0, 0)", x.turn(0, 0), BAD);
        is("turn(8, 0)", x.turn(8, 0), BAD);
        is("turn(1, 3)", x.turn(1, 3), BAD);
        is("turn(1, -1)", x.turn(1, -1), BAD);
        // The tallest in room 2 comes to room 0 by the turned doors only.
        SmallerOut y = house(3, new int[] {1, 0, 12, 0}, new int[] {30, 2, 20, 1, 10, 0});
        is("turn(1, 1)", y.turn(1, 1), 2);
        is("turn(1, 0)", y.turn(1, 0), 3);
        is("turn(4, 1)", y.turn(4, 1), 1);
        is("turn(1, 2)", y.turn(1, 2), 0);
        is("of(0, 10), in thought alone", y.of(0, 10), 1);
        // One door of the two ways is enough; the least bits of those with one.
        SmallerOut z = house(3, new int[] {1, 0, 20, 0, 20, 0, 1, 0, 2, 0}, new int[] {10, 0, 30, 1, 20, 2});
        is("turn(2, 0)", z.turn(2, 0), 1);
        is("turn(2, 2)", z.turn(2, 2), 1);
        is("turn(1, 2)", z.turn(1, 2), 0);
        is("turn(4, 1)", z.turn(4, 1), 1);
        is("turn(5, 1)", z.turn(5, 1), NOT);
        // Fewest ahead of least bits: 4 alone, not 3 together.
        SmallerOut w = house(4, new int[] {1, 0, 12, 0, 2, 0}, new int[] {10, 0, 20, 1, 30, 2});
        is("turn(4, 0)", w.turn(4, 0), 4);
        // The law sees the rooms as they are turned, and the door as it was.
        SmallerOut v = house(2, new int[] {1, 0}, new int[] {10, 0, 20, 1});
        is("turn(1, 1)", v.turn(1, 1), 1);
        tell(v, "i>j&k=0&d=0");
        is("turn(1, 1)", v.turn(1, 1), 1);
        tell(v, "i<j");
        is("turn(1, 1)", v.turn(1, 1), 0);
        is("turn(3, 1)", v.turn(3, 1), NOT);
        SmallerOut u = house(1, new int[0], new int[] {10, 0});
        is("turn(1, 0), no doors", u.turn(1, 0), 0);
    }

    private static void boots() {
        promise = 20;
        SmallerOut x = house(2, new int[] {1, 0}, new int[] {10, 0, 12, 0, 14, 1});
        is("boots(1, 1, 0)", x.boots(1, 1, 0), 0);
        is("boots(1, 1, 1)", x.boots(1, 1, 1), 1);
        is("boots(2, 1, 0)", x.boots(2, 1, 0), 1);
        is("boots(4, 0, 0), who wears them first", x.boots(4, 0, 0), 0);
        is("boots(3, 0, 0)", x.boots(3, 0, 0), -1);
        is("boots(3, 0, 1)", x.boots(3, 0, 1), 0);
        is("boots(3, 1, 0)", x.boots(3, 1, 0), NOT);
        is("boots(3, 1, 1)", x.boots(3, 1, 1), NOT);
        x.wear(2);
        is("boots(2, 1, 0), whoever wears them now", x.boots(2, 1, 0), 1);
        is("wear(2)", x.wear(2), 2);
        x.mend(0, 3, 4);
        is("boots(1, 1, 0), 14 and 14", x.boots(1, 1, 0), NOT);
        is("boots(2, 1, 1)", x.boots(2, 1, 1), 1);
        is("boots(0, 0, 0)", x.boots(0, 0, 0), VOID);
        is("boots(8, 0, 0)", x.boots(8, 0, 0), VOID);
        is("boots(1, 2, 0)", x.boots(1, 2, 0), VOID);
        is("boots(1, -1, 0)", x.boots(1, -1, 0), VOID);
        is("boots(1, 0, 2)", x.boots(1, 0, 2), VOID);
        is("boots(1, 0, -1)", x.boots(1, 0, -1), VOID);
        // With nobody's it takes three changes, in 0's boots one.
        SmallerOut y = house(4, new int[] {1, 0, 12, 0, 23, 0, 3, 0}, new int[] {30, 0, 20, 1, 20, 2, 32, 3});
        y.mend(3, 0, 29);
        y.mend(3, 2, 1);
        y.mend(0, 3, 0);
        is("boots(1, 3, 1)", y.boots(1, 3, 1), 3);
        is("boots(1, 3, 0)", y.boots(1, 3, 0), -1);
        y.mend(3, 0, 29);
        y.mend(0, 3, 2);
        is("boots(1, 3, 1), 3 in boots", y.boots(1, 3, 1), 1);
        is("boots(1, 3, 0), 3 in boots", y.boots(1, 3, 0), 3);
    }

    private static void month() {
        promise = 21;
        SmallerOut x = house(2, new int[] {1, 0}, new int[] {10, 0, 33, 1});
        is("month(1, 1)", x.month(1, 1), NOT);
        is("month(1, 0)", x.month(1, 0), 0);
        x.mend(0, 1, 1);
        is("month(1, 1), 34 above 33", x.month(1, 1), 24);
        x.mend(1, 0, 34);
        is("month(1, 1), 34 and 34", x.month(1, 1), NOT);
        x.mend(0, 1, 9);
        is("month(1, 1), 37 above 34", x.month(1, 1), 3);
        x.mend(1, 1, 8);
        is("month(1, 1), one by one nearer", x.month(1, 1), NOT);
        x.mend(1, 0, 33);
        is("month(1, 1), 226 above 225", x.month(1, 1), 24);
        x.wear(0);
        is("month(1, 1), in boots", x.month(1, 1), 19);
        is("of(0, 0), in thought alone", x.of(0, 0), 10);
        is("month(0, 1)", x.month(0, 1), BAD);
        is("month(4, 1)", x.month(4, 1), BAD);
        is("month(1, 2)", x.month(1, 2), BAD);
        is("month(1, -1)", x.month(1, -1), BAD);
    }

    // ---- evenings

    private static void tries() {
        promise = 22;
        SmallerOut x = circle();
        is("tries(1, 0, -1, 0)", x.tries(1, 0, -1, 0), BAD);
        is("tries(1, 100, -1, 0)", x.tries(1, 100, -1, 0), BAD);
        is("tries(1, MIN, -1, 0)", x.tries(1, LEAST, -1, 0), BAD);
        is("tries(1, 1, 2, 0)", x.tries(1, 1, 2, 0), BAD);
        is("tries(1, 1, -2, 0)", x.tries(1, 1, -2, 0), BAD);
        is("tries(1, 1, 0, 1)", x.tries(1, 1, 0, 1), BAD);
        is("tries(1, 1, -1, 2)", x.tries(1, 1, -1, 2), BAD);
        is("tries(1, 1, -1, -1)", x.tries(1, 1, -1, -1), BAD);
        is("tries(1, 1, 0, -1)", x.tries(1, 1, 0, -1), BAD);
        SmallerOut none = house(2, new int[0], new int[] {30, 0, 20, 1});
        is("tries(1, 1, -1, 0), no doors", none.tries(1, 1, -1, 0), STATE);
        is("tries(1, 0, -1, 0), BAD ahead of STATE", none.tries(1, 0, -1, 0), BAD);
        // One room is empty, so that two draws are not made: only the door is drawn.
        SmallerOut y = house(2, new int[] {1, 0}, new int[] {30, 0, 20, 0});
        is("tries(1, 99, -1, 0)", y.tries(1, 99, -1, 0), 0);
        is("tries(1, 99, -1, 1)", y.tries(1, 99, -1, 1), 0);
        is("tries(1, 99, 1, 0)", y.tries(1, 99, 1, 0), 0);
        int[] seeds = {0, 1, 7, -1, 12345, LEAST, MOST, 99991};
        for (int seed : seeds) {
            // In the circle just one of the two doors serves, and then the other one.
            int changed = 0;
            int rooms = 0;
            int z = seed;
            for (int i = 0; i < 20; i++) {
                z = z * 1103515245 + 12345;
                int door = (z >>> 8) % 2;
                z = (z * 1103515245 + 12345) * 1103515245 + 12345;
                if (door == rooms) {
                    changed++;
                    rooms = 1 - rooms;
                }
            }
            is("tries(" + seed + ", 20, -1, 0)", x.tries(seed, 20, -1, 0), changed);
            is("tries(" + seed + ", 20, 0, 0)", x.tries(seed, 20, 0, 0), rooms);
            is("tries(" + seed + ", 20, 1, 0)", x.tries(seed, 20, 1, 0), 1 - rooms);
            is("tries(" + seed + ", 20, -1, 1)", x.tries(seed, 20, -1, 1), NOT);
            triesTillRest(seed);
        }
        is("of(0, 1), in thought alone", x.of(0, 1), 0);
        is("led(0), in thought alone", x.led(0), 0);
    }

    /** One door UP from 30 and 10 to 20 and 5: it rests when no one in room 0 is above one in room 1. */
    private static void triesTillRest(int seed) {
        SmallerOut x = house(2, new int[] {1, 0}, new int[] {30, 0, 10, 0, 20, 1, 5, 1});
        int[] size = {30, 10, 20, 5};
        int[] room = {0, 0, 1, 1};
        int changed = 0;
        int rested = NOT;
        int z = seed;
        for (int i = 1; i <= 30; i++) {
            z = z * 1103515245 + 12345;
            z = z * 1103515245 + 12345;
            int p = pick(room, 0, (z >>> 8) % 2);
            z = z * 1103515245 + 12345;
            int q = pick(room, 1, (z >>> 8) % 2);
            if (size[p] > size[q]) {
                room[p] = 1;
                room[q] = 0;
                changed++;
            }
            boolean some = false;
            for (int a = 0; a < 4; a++) {
                for (int b = 0; b < 4; b++) {
                    some |= room[a] == 0 && room[b] == 1 && size[a] > size[b];
                }
            }
            if (!some && rested == NOT) {
                rested = i;
            }
        }
        is("tries(" + seed + ", 30, -1, 0)", x.tries(seed, 30, -1, 0), changed);
        is("tries(" + seed + ", 30, -1, 1)", x.tries(seed, 30, -1, 1), rested);
        for (int p = 0; p < 4; p++) {
            is("tries(" + seed + ", 30, " + p + ", 0)", x.tries(seed, 30, p, 0), room[p]);
        }
        if (rested > 1) {
            is("tries, one too few", x.tries(seed, rested - 1, -1, 1), NOT);
            is("tries, just enough", x.tries(seed, rested, -1, 1), rested);
        }
    }

    private static int pick(int[] room, int wanted, int k) {
        for (int p = 0; p < room.length; p++) {
            if (room[p] == wanted && k-- == 0) {
                return p;
            }
        }
        return -1;
    }

    /** One room is empty: the door is drawn and nothing else, which the next draws tell. */
    private static void neitherDrawn() {
        promise = 22;
        SmallerOut x = house(3, new int[] {1, 0, 10, 0, 2, 2, 20, 2}, new int[] {30, 0, 10, 0, 20, 2, 25, 2});
        for (int seed = 1; seed <= 20; seed++) {
            int[] size = {30, 10, 20, 25};
            int[] room = {0, 0, 2, 2};
            int changed = 0;
            int z = seed;
            for (int i = 0; i < 9; i++) {
                z = z * 1103515245 + 12345;
                int door = (z >>> 8) % 4;
                if (door < 2) {
                    continue;
                }
                int from = door == 2 ? 0 : 2;
                z = z * 1103515245 + 12345;
                int p = pick(room, from, (z >>> 8) % 2);
                z = z * 1103515245 + 12345;
                int q = pick(room, 2 - from, (z >>> 8) % 2);
                if (size[p] >= size[q]) {
                    room[p] = 2 - from;
                    room[q] = from;
                    changed++;
                }
            }
            is("tries(" + seed + ", 9, -1, 0)", x.tries(seed, 9, -1, 0), changed);
            is("tries(" + seed + ", 9, 0, 0)", x.tries(seed, 9, 0, 0), room[0]);
            is("tries(" + seed + ", 9, 3, 0)", x.tries(seed, 9, 3, 0), room[3]);
        }
    }

    /** In a month 1 would be above 0; what is asked of now must not see that. */
    private static void grownLater() {
        SmallerOut x = house(2, new int[] {1, 0}, new int[] {30, 0, 25, 1});
        x.mend(1, 1, 9);
        bytes(x, 0, 0, 0, 1);
        bytes(x, 1, 1, 0);
        promise = 8;
        is("of(1, 3)", x.of(1, 3), 25);
        promise = 11;
        is("may(0, 1)", x.may(0, 1), 1);
        promise = 12;
        is("changes(-1)", x.changes(-1), 1);
        promise = 15;
        is("reach(0)", x.reach(0), 2);
        promise = 16;
        is("canBe(0)", x.canBe(0), 3);
        promise = 17;
        is("fewest(1, 1, -1)", x.fewest(1, 1, -1), 1);
        promise = 18;
        is("first(1, 1)", x.first(1, 1), 1);
        promise = 19;
        is("turn(1, 1)", x.turn(1, 1), 0);
        promise = 20;
        is("boots(1, 1, 0)", x.boots(1, 1, 0), -1);
        promise = 22;
        is("tries(1, 1, -1, 0)", x.tries(1, 1, -1, 0), 1);
        promise = 23;
        is("judge(0)", x.judge(0), NOT);
        promise = 24;
        is("seen(1)", x.seen(1), 1);
        promise = 13;
        is("change(0, 1)", x.change(0, 1), 1);
    }

    private static void judge() {
        promise = 23;
        SmallerOut x = stairs();
        is("judge(-1)", x.judge(-1), BAD);
        is("judge(6)", x.judge(6), BAD);
        is("judge(0)", x.judge(0), -11);
        x.body(0);
        x.keep(0, 0);
        is("judge(0), a body", x.judge(0), -12);
        for (int sort = 1; sort < 5; sort++) {
            x.row(0, sort, 3);
            is("judge(0), sort " + sort, x.judge(0), -12);
        }
        bytes(x, 0);
        is("judge(0), no threes", x.judge(0), NOT);
        bytes(x, 0, 0, 0, 1, 1, 0, 2, 0, 1, 2);
        is("judge(0), the longest evening", x.judge(0), NOT);
        is("of(0, 1), in thought alone", x.of(0, 1), 0);
        is("led(0), in thought alone", x.led(0), 0);
        bytes(x, 0, 0, 0, 1, 1, 0, 2, 0, 1, 2, 0, 1, 2);
        is("judge(0), one more", x.judge(0), 3);
        bytes(x, 0, 0, 0, 1, 1, 0, 2, 0, 1);
        is("judge(0), an end that lacks", x.judge(0), 2);
        bytes(x, 0, 0, 0, 1, 1);
        is("judge(0), an end that lacks", x.judge(0), 1);
        bytes(x, 0, 0, 0);
        is("judge(0), an end that lacks", x.judge(0), 0);
        bytes(x, 0, 0, 0, 1, 0, 1, 1);
        is("judge(0), p is q", x.judge(0), 1);
        bytes(x, 0, 0, 0, 1, 2, 0, 2);
        is("judge(0), no such door", x.judge(0), 1);
        bytes(x, 0, 0, 0, 1, 255, 0, 2);
        is("judge(0), a door below 0", x.judge(0), 1);
        bytes(x, 0, 0, 0, 3);
        is("judge(0), nobody such", x.judge(0), 0);
        bytes(x, 0, 0, 128, 1);
        is("judge(0), one below 0", x.judge(0), 0);
        bytes(x, 0, 0, 0, 2);
        is("judge(0), not there", x.judge(0), 0);
        bytes(x, 0, 0, 1, 5);
        is("judge(0), nobody such", x.judge(0), 0);
        tell(x, "a<b");
        bytes(x, 0, 0, 0, 1);
        is("judge(0), by the law", x.judge(0), 0);
        // What lacks is not a 0 that would do.
        SmallerOut y = house(2, new int[] {1, 0}, new int[] {10, 1, 20, 0});
        bytes(y, 0, 0, 1, 0);
        is("judge(0)", y.judge(0), NOT);
        bytes(y, 0, 0, 1);
        is("judge(0), q lacks", y.judge(0), 0);
    }

    private static void seen() {
        promise = 24;
        SmallerOut x = stairs();
        is("seen(-1)", x.seen(-1), BAD);
        is("seen(6)", x.seen(6), BAD);
        is("seen(0)", x.seen(0), -11);
        x.body(0);
        x.keep(0, 0);
        is("seen(0), a body", x.seen(0), -12);
        for (int sort = 1; sort < 5; sort++) {
            x.row(0, sort, 3);
            is("seen(0), sort " + sort, x.seen(0), -12);
        }
        bytes(x, 0, 0, 1, 2);
        is("seen(0), as it is", x.seen(0), 0);
        bytes(x, 0, 1, 0, 2);
        is("seen(0)", x.seen(0), 1);
        bytes(x, 0, 2, 1, 0);
        is("seen(0)", x.seen(0), 3);
        bytes(x, 0, 2, 1, 0, 99, 99);
        is("seen(0), more behind", x.seen(0), 3);
        bytes(x, 0, 2, 1);
        is("seen(0), ends before", x.seen(0), NOT);
        bytes(x, 0);
        is("seen(0), ends before", x.seen(0), NOT);
        bytes(x, 0, 0, 1, 3);
        is("seen(0), no room", x.seen(0), NOT);
        bytes(x, 0, 0, 1, 255);
        is("seen(0), no room", x.seen(0), NOT);
        bytes(x, 0, 0, 0, 0);
        is("seen(0), never", x.seen(0), NOT);
        x.change(0, 1);
        bytes(x, 0, 0, 1, 2);
        is("seen(0), never again", x.seen(0), NOT);
        SmallerOut y = new SmallerOut();
        y.row(0, 0, 0);
        is("seen(0), nobody", y.seen(0), 0);
    }

    private static void image() {
        promise = 25;
        SmallerOut x = stairs();
        is("image()", x.image(), 3);
        x.change(0, 1);
        x.wear(2);
        is("image(), a later one", x.image(), 3);
        x.change(1, 2);
        x.wear(-1);
        is("back()", x.back(), 3);
        is("of(0, 1)", x.of(0, 1), 1);
        is("of(1, 1)", x.of(1, 1), 0);
        is("of(2, 1)", x.of(2, 1), 2);
        is("wear(2)", x.wear(2), 2);
        is("image(), nobody", new SmallerOut().image(), 0);
    }

    private static void back() {
        promise = 26;
        SmallerOut x = stairs();
        is("back()", x.back(), STATE);
        x.image();
        x.person(5, 0);
        x.wear(3);
        x.mend(0, 0, 31);
        x.change(0, 1);
        x.change(1, 2);
        is("back()", x.back(), 3);
        is("of(0, 1)", x.of(0, 1), 0);
        is("of(1, 1)", x.of(1, 1), 1);
        is("of(2, 1)", x.of(2, 1), 2);
        is("of(3, 1), who came since", x.of(3, 1), 0);
        is("of(0, 0), a number stays", x.of(0, 0), 31);
        is("wear(-1), nobody did", x.wear(-1), -1);
        is("led(0), what was led stays", x.led(0), 2);
        is("count(4)", x.count(4), 1);
        x.change(0, 1);
        is("back(), again", x.back(), 3);
        is("of(0, 1)", x.of(0, 1), 0);
        // One who came since has moved: that stays.
        SmallerOut y = house(2, new int[] {1, 0}, new int[] {5, 1});
        y.image();
        y.person(9, 0);
        y.change(0, 10);
        is("back()", y.back(), 1);
        is("of(0, 1)", y.of(0, 1), 1);
        is("of(1, 1)", y.of(1, 1), 1);
        SmallerOut z = new SmallerOut();
        z.image();
        is("back(), an image of nobody", z.back(), 0);
    }

    private static void undo() {
        promise = 27;
        SmallerOut x = house(2, new int[] {1, 0}, new int[] {30, 0, 20, 1});
        is("undo()", x.undo(), STATE);
        x.mend(0, 0, 31);
        x.mend(1, 1, 3);
        x.mend(0, 2, 2);
        x.mend(0, 3, 9);
        x.mend(0, 0, 32);
        x.wear(0);
        x.change(0, 1);
        is("undo()", x.undo(), 4);
        is("of(0, 0)", x.of(0, 0), 31);
        is("undo()", x.undo(), 3);
        is("of(0, 30)", x.of(0, 30), 5);
        is("undo()", x.undo(), 2);
        is("of(0, 11)", x.of(0, 11), 0);
        is("undo()", x.undo(), 1);
        is("of(1, 2)", x.of(1, 2), 0);
        is("undo()", x.undo(), 0);
        is("of(0, 0)", x.of(0, 0), 30);
        is("undo()", x.undo(), STATE);
        is("of(0, 1), a change of rooms stays", x.of(0, 1), 1);
        is("wear(0), boots stay", x.wear(0), 0);
        SmallerOut y = house(1, new int[0], new int[] {1, 0});
        for (int i = 2; i <= 43; i++) {
            y.mend(0, 0, i);
            is("count(4)", y.count(4), Math.min(40, i - 1));
        }
        for (int i = 39; i >= 0; i--) {
            is("undo()", y.undo(), i);
            is("of(0, 0)", y.of(0, 0), i + 3);
        }
        is("undo(), the oldest are gone", y.undo(), STATE);
        is("of(0, 0)", y.of(0, 0), 3);
        for (int i = 39; i >= 0; i--) {
            is("redo()", y.redo(), i);
        }
        is("of(0, 0)", y.of(0, 0), 43);
        undoOfWhatStayed();
    }

    /** A number that is mended to what it is has not changed: neither at first, nor between changes, nor behind forty. */
    private static void undoOfWhatStayed() {
        SmallerOut x = house(2, new int[] {1, 0}, new int[] {30, 0, 20, 1});
        x.mend(0, 0, 30);
        x.mend(0, 1, 0);
        x.mend(0, 2, 0);
        x.mend(0, 3, 5);
        is("count(4)", x.count(4), 0);
        is("undo(), no number has changed", x.undo(), STATE);
        x.mend(0, 0, 31);
        x.mend(0, 0, 31);
        x.mend(1, 0, 20);
        x.mend(1, 1, 3);
        x.mend(1, 1, 3);
        is("undo()", x.undo(), 1);
        is("of(1, 2)", x.of(1, 2), 0);
        is("of(0, 0)", x.of(0, 0), 31);
        is("undo()", x.undo(), 0);
        is("of(0, 0)", x.of(0, 0), 30);
        is("undo()", x.undo(), STATE);
        SmallerOut y = house(1, new int[0], new int[] {1, 0});
        for (int i = 2; i <= 41; i++) {
            y.mend(0, 0, i);
        }
        y.mend(0, 0, 41);
        for (int i = 39; i >= 0; i--) {
            is("undo()", y.undo(), i);
        }
        is("of(0, 0), none was forgotten for what stayed", y.of(0, 0), 1);
    }

    private static void redo() {
        promise = 28;
        SmallerOut x = house(2, new int[] {1, 0}, new int[] {30, 0, 20, 1});
        is("redo()", x.redo(), STATE);
        x.mend(0, 0, 31);
        is("redo()", x.redo(), STATE);
        x.mend(1, 1, 3);
        x.mend(0, 2, 2);
        x.mend(0, 3, 9);
        for (int i = 0; i < 4; i++) {
            x.undo();
        }
        is("redo()", x.redo(), 3);
        is("of(0, 0)", x.of(0, 0), 31);
        is("redo()", x.redo(), 2);
        is("of(1, 2)", x.of(1, 2), 3);
        is("redo()", x.redo(), 1);
        is("of(0, 11)", x.of(0, 11), 2);
        is("redo()", x.redo(), 0);
        is("of(0, 30)", x.of(0, 30), 9);
        is("redo()", x.redo(), STATE);
        is("count(4)", x.count(4), 4);
        x.undo();
        x.undo();
        is("mend(0, 0, 100), what is refused changes nothing", x.mend(0, 0, 100), BAD);
        is("redo()", x.redo(), 1);
        x.mend(0, 0, 50);
        is("redo(), another came behind", x.redo(), STATE);
        is("count(4)", x.count(4), 4);
        is("undo()", x.undo(), 3);
        is("of(0, 0)", x.of(0, 0), 31);
        x.change(0, 1);
        x.wear(1);
        is("redo(), no number came behind", x.redo(), 0);
        is("of(0, 0)", x.of(0, 0), 50);
        x.undo();
        x.undo();
        is("mend(0, 0, 31), as it is", x.mend(0, 0, 31), 31);
        is("mend(0, 2, 0), as it is", x.mend(0, 2, 0), 0);
        is("redo(), no change came behind", x.redo(), 1);
        is("of(0, 11)", x.of(0, 11), 2);
        is("redo(), no change came behind", x.redo(), 0);
        is("of(0, 0)", x.of(0, 0), 50);
        // A change there and back again is two changes, though the number is what it was.
        x.undo();
        x.mend(0, 0, 60);
        x.mend(0, 0, 31);
        is("redo(), others came behind", x.redo(), STATE);
        is("count(4)", x.count(4), 5);
    }

    // ---- acts, shelves

    private static void body() {
        promise = 29;
        SmallerOut x = new SmallerOut();
        is("body(-1)", x.body(-1), BAD);
        is("body(8)", x.body(8), BAD);
        is("body(MIN)", x.body(LEAST), BAD);
        for (int i = 0; i < 50; i++) {
            is("body(" + i % 8 + ")", x.body(i % 8), i);
        }
        is("body(0)", x.body(0), FULL);
        is("body(8), BAD ahead of FULL", x.body(8), BAD);
        is("count(5)", x.count(5), 50);
        x.keep(0, 49);
        is("taken(0, 0)", x.taken(0, 0), 1);
    }

    private static SmallerOut bodies() {
        SmallerOut x = new SmallerOut();
        for (int kind = 0; kind < 8; kind++) {
            x.body(kind);
        }
        return x;
    }

    private static void act() {
        promise = 30;
        SmallerOut x = bodies();
        // By hand with x 5 and n the kind: lets, bars, turns, tells.
        int[][] due = {
            {5, 10, 5, 10 - 1},
            {9, 18, 4, 18 - 0},
            {7, -14, 7, -14 - 3},
            {8, -18, 18, -18 - 6},
            {12, 24, 1, (24 - 5) ^ 5},
            {10, -22, -7, -22 - 5 + 1},
            {22, 44, 3, 44 - 7},
            {23, 51, 2, 51 - 6},
        };
        for (int kind = 0; kind < 8; kind++) {
            for (int act = 0; act < 4; act++) {
                is("act(" + kind + ", " + act + ", 5)", x.act(kind, act, 5), due[kind][act]);
            }
        }
        is("act(0, 0, MAX)", x.act(0, 0, MOST), MOST);
        is("act(1, 0, MAX)", x.act(1, 0, MOST), LEAST + 3);
        is("act(2, 1, MAX)", x.act(2, 1, MOST), -2);
        is("act(8, 0, 1)", x.act(8, 0, 1), 0);
        is("act(-1, 0, 1)", x.act(-1, 0, 1), 0);
        is("act(0, 4, 1)", x.act(0, 4, 1), 0);
        is("act(0, -1, 1)", x.act(0, -1, 1), 0);
        is("act(MIN, MAX, 1)", x.act(LEAST, MOST, 1), 0);
        x.body(0);
        is("act(8, 0, 1), n is the number, not the kind", x.act(8, 0, 1), 9);
        is("act(8, 2, 1)", x.act(8, 2, 1), 9);
    }

    private static void ran(SmallerOut x, int body, int act, int... numbers) {
        x.act(body, act, 5);
        is("count(6) of " + body + ", " + act, x.count(6), numbers.length);
        for (int i = 0; i < numbers.length; i++) {
            is("trace(" + i + ") of " + body + ", " + act, x.trace(i), numbers[i]);
        }
        is("trace(" + numbers.length + ")", x.trace(numbers.length), BAD);
        is("trace(-1)", x.trace(-1), BAD);
        is("trace(MIN)", x.trace(LEAST), BAD);
        is("trace(MAX)", x.trace(MOST), BAD);
    }

    private static void trace() {
        promise = 31;
        SmallerOut x = bodies();
        ran(x, 0, 0, 1);
        ran(x, 0, 1, 10, 1);
        ran(x, 0, 2, 11);
        ran(x, 0, 3, 2, 10, 1, 11);
        ran(x, 1, 0, 20, 1);
        ran(x, 1, 3, 2, 10, 20, 1, 11);
        ran(x, 2, 1, 30, 10, 1);
        ran(x, 2, 3, 2, 30, 10, 1, 11);
        ran(x, 3, 1, 41, 30, 10, 1);
        ran(x, 3, 2, 40, 11);
        ran(x, 3, 3, 2, 41, 30, 10, 1, 40, 11);
        ran(x, 4, 0, 20, 1);
        ran(x, 4, 3, 50, 2, 10, 20, 1, 11);
        ran(x, 5, 2, 60, 40, 11, 1);
        ran(x, 5, 3, 61, 2, 41, 30, 10, 1, 60, 40, 11, 1);
        ran(x, 6, 0, 70, 1);
        ran(x, 6, 3, 2, 10, 70, 1, 11);
        ran(x, 7, 0, 81, 70, 1);
        ran(x, 7, 1, 80, 10, 81, 70, 1, 11);
        ran(x, 7, 2, 11);
        ran(x, 7, 3, 2, 80, 10, 81, 70, 1, 11, 11);
        x.act(8, 0, 1);
        is("count(6), no such body", x.count(6), 0);
        is("trace(0), no such body", x.trace(0), BAD);
        x.act(0, 0, 1);
        x.act(0, 4, 1);
        is("count(6), no such act", x.count(6), 0);
        is("trace(0), no such act", x.trace(0), BAD);
    }

    private static void keep() {
        promise = 32;
        SmallerOut x = bodies();
        is("keep(-1, 0)", x.keep(-1, 0), BAD);
        is("keep(6, 0)", x.keep(6, 0), BAD);
        is("keep(0, 8)", x.keep(0, 8), BAD);
        is("keep(0, -2)", x.keep(0, -2), BAD);
        is("keep(6, -1)", x.keep(6, -1), BAD);
        is("keep(MAX, MIN)", x.keep(MOST, LEAST), BAD);
        is("taken(0, 0)", x.taken(0, 0), -11);
        is("keep(0, 3)", x.keep(0, 3), 1);
        is("taken(0, 0)", x.taken(0, 0), 3);
        is("taken(1, 0)", x.taken(1, 0), -11);
        is("keep(5, 0)", x.keep(5, 0), 1);
        is("taken(5, 0)", x.taken(5, 0), 0);
        is("keep(0, 8), what was held stays", x.keep(0, 8), BAD);
        is("taken(0, 0)", x.taken(0, 0), 3);
        x.row(0, 0, 2);
        is("taken(0, 0), a row", x.taken(0, 0), -12);
        is("keep(0, 4)", x.keep(0, 4), 1);
        is("put(0, 0, 1), the row is gone", x.put(0, 0, 1), -12);
        is("keep(0, -1)", x.keep(0, -1), 1);
        is("put(0, 0, 1), all is gone", x.put(0, 0, 1), -11);
        is("taken(0, 0)", x.taken(0, 0), -11);
        x.row(1, 2, 4);
        is("keep(1, -1)", x.keep(1, -1), 1);
        is("put(1, 0, 1)", x.put(1, 0, 1), -11);
    }

    private static void row() {
        promise = 33;
        SmallerOut x = new SmallerOut();
        is("row(-1, 0, 1)", x.row(-1, 0, 1), BAD);
        is("row(6, 0, 1)", x.row(6, 0, 1), BAD);
        is("row(0, -1, 1)", x.row(0, -1, 1), BAD);
        is("row(0, 5, 1)", x.row(0, 5, 1), BAD);
        is("row(0, 0, 61)", x.row(0, 0, 61), BAD);
        is("row(0, 0, MAX)", x.row(0, 0, MOST), BAD);
        is("row(0, 0, -1)", x.row(0, 0, -1), -14);
        is("row(0, 0, MIN)", x.row(0, 0, LEAST), -14);
        is("row(6, 0, -1), BAD ahead of -14", x.row(6, 0, -1), BAD);
        is("row(0, 5, -1), BAD ahead of -14", x.row(0, 5, -1), BAD);
        is("put(0, 0, 1), nothing there", x.put(0, 0, 1), -11);
        for (int sort = 0; sort < 5; sort++) {
            is("row(0, " + sort + ", 60)", x.row(0, sort, 60), 1);
            is("element(0, 59)", x.element(0, 59), 0);
            is("element(0, 60)", x.element(0, 60), Long.MIN_VALUE);
            is("put(0, 59, 1)", x.put(0, 59, 1), 1);
            is("element(0, 59)", x.element(0, 59), 1);
        }
        is("row(0, 0, 0)", x.row(0, 0, 0), 1);
        is("put(0, 0, 1)", x.put(0, 0, 1), -13);
        is("row(0, 0, 3)", x.row(0, 0, 3), 1);
        x.put(0, 1, 7);
        is("row(0, 0, 61), what was held stays", x.row(0, 0, 61), BAD);
        is("row(0, 0, -1), what was held stays", x.row(0, 0, -1), -14);
        is("element(0, 1)", x.element(0, 1), 7);
        is("row(0, 0, 3), anew", x.row(0, 0, 3), 1);
        is("element(0, 1)", x.element(0, 1), 0);
        x.body(2);
        x.keep(0, 0);
        is("row(0, 1, 3)", x.row(0, 1, 3), 1);
        is("taken(0, 2), the body is gone", x.taken(0, 2), -12);
    }

    private static void put() {
        promise = 34;
        SmallerOut x = new SmallerOut();
        is("put(-1, 0, 1)", x.put(-1, 0, 1), BAD);
        is("put(6, 0, 1)", x.put(6, 0, 1), BAD);
        is("put(0, 0, 1)", x.put(0, 0, 1), -11);
        is("put(0, -1, 1), -11 ahead of -13", x.put(0, -1, 1), -11);
        x.body(0);
        x.keep(0, 0);
        is("put(0, 0, 1)", x.put(0, 0, 1), -12);
        is("put(0, 99, 1), -12 ahead of -13", x.put(0, 99, 1), -12);
        x.row(0, 0, 2);
        is("put(0, -1, 1)", x.put(0, -1, 1), -13);
        is("put(0, 2, 1)", x.put(0, 2, 1), -13);
        is("put(0, MIN, 1)", x.put(0, LEAST, 1), -13);
        is("put(0, MAX, 1)", x.put(0, MOST, 1), -13);
        is("put(0, 0, 1)", x.put(0, 0, 1), 1);
        is("element(0, 1), the next one stays", x.element(0, 1), 0);
    }

    private static void holds(SmallerOut x, int sort, long v, long due) {
        x.row(0, sort, 1);
        is("put(0, 0, " + v + ") of sort " + sort, x.put(0, 0, v), 1);
        is("element of sort " + sort + ", " + v, x.element(0, 0), due);
    }

    private static void element() {
        promise = 35;
        SmallerOut x = new SmallerOut();
        is("element(-1, 0)", x.element(-1, 0), Long.MIN_VALUE);
        is("element(6, 0)", x.element(6, 0), Long.MIN_VALUE);
        is("element(0, 0), nothing", x.element(0, 0), Long.MIN_VALUE);
        x.body(0);
        x.keep(0, 0);
        is("element(0, 0), a body", x.element(0, 0), Long.MIN_VALUE);
        x.row(0, 3, 2);
        is("element(0, 2)", x.element(0, 2), Long.MIN_VALUE);
        is("element(0, -1)", x.element(0, -1), Long.MIN_VALUE);
        is("element(0, 1)", x.element(0, 1), 0);
        holds(x, 0, 127, 127);
        holds(x, 0, 128, -128);
        holds(x, 0, 255, -1);
        holds(x, 0, 256, 0);
        holds(x, 0, -129, 127);
        holds(x, 0, Long.MIN_VALUE, 0);
        holds(x, 1, 32767, 32767);
        holds(x, 1, 32768, -32768);
        holds(x, 1, 65536 + 5, 5);
        holds(x, 2, 2147483647, 2147483647);
        holds(x, 2, 2147483648L, -2147483648);
        holds(x, 2, 4294967296L + 6, 6);
        holds(x, 3, 4294967296L + 6, 4294967302L);
        holds(x, 3, Long.MAX_VALUE, Long.MAX_VALUE);
        holds(x, 3, -1, -1);
        holds(x, 4, 0, 0);
        holds(x, 4, 1, 1);
        holds(x, 4, 2, 1);
        holds(x, 4, -1, 1);
        holds(x, 4, 4294967296L, 1);
    }

    private static void elements(SmallerOut x, int shelf, int... due) {
        for (int i = 0; i < due.length; i++) {
            is("element(" + shelf + ", " + i + ")", x.element(shelf, i), due[i]);
        }
    }

    private static void shift() {
        promise = 36;
        SmallerOut x = new SmallerOut();
        bytes(x, 0, 1, 2, 3, 4, 5);
        bytes(x, 1, 10, 20, 30);
        is("shift(6, 0, 0, 0, 1)", x.shift(6, 0, 0, 0, 1), BAD);
        is("shift(0, 0, 6, 0, 1)", x.shift(0, 0, 6, 0, 1), BAD);
        is("shift(-1, 0, 0, 0, 1)", x.shift(-1, 0, 0, 0, 1), BAD);
        is("shift(2, 0, 0, 0, 1)", x.shift(2, 0, 0, 0, 1), -11);
        is("shift(0, 0, 2, 0, 1)", x.shift(0, 0, 2, 0, 1), -11);
        x.body(0);
        x.keep(3, 0);
        is("shift(3, 0, 0, 0, 1)", x.shift(3, 0, 0, 0, 1), -12);
        is("shift(0, 0, 3, 0, 1)", x.shift(0, 0, 3, 0, 1), -12);
        is("shift(3, 0, 3, 0, 1)", x.shift(3, 0, 3, 0, 1), -12);
        is("shift(3, 0, 2, 0, 1), -11 ahead of -12", x.shift(3, 0, 2, 0, 1), -11);
        is("shift(2, 0, 3, 0, 1), -11 ahead of -12", x.shift(2, 0, 3, 0, 1), -11);
        x.row(4, 1, 5);
        is("shift(0, 0, 4, 0, 1), unlike", x.shift(0, 0, 4, 0, 1), -12);
        is("shift(0, 9, 4, 0, 1), -12 ahead of -13", x.shift(0, 9, 4, 0, 1), -12);
        is("shift(0, -1, 1, 0, 1)", x.shift(0, -1, 1, 0, 1), -13);
        is("shift(0, 0, 1, -1, 1)", x.shift(0, 0, 1, -1, 1), -13);
        is("shift(0, 0, 1, 0, -1)", x.shift(0, 0, 1, 0, -1), -13);
        is("shift(0, 0, 1, 0, 4)", x.shift(0, 0, 1, 0, 4), -13);
        is("shift(1, 0, 0, 0, 4)", x.shift(1, 0, 0, 0, 4), -13);
        is("shift(1, 2, 0, 0, 2)", x.shift(1, 2, 0, 0, 2), -13);
        is("shift(0, 0, 1, 2, 2)", x.shift(0, 0, 1, 2, 2), -13);
        is("shift(0, MAX, 1, 0, MAX)", x.shift(0, MOST, 1, 0, MOST), -13);
        is("shift(0, 1, 1, 0, MAX)", x.shift(0, 1, 1, 0, MOST), -13);
        is("shift(0, MIN, 1, MIN, MIN)", x.shift(0, LEAST, 1, LEAST, LEAST), -13);
        is("shift(0, 6, 1, 0, 0)", x.shift(0, 6, 1, 0, 0), -13);
        is("shift(0, 5, 1, 3, 0)", x.shift(0, 5, 1, 3, 0), 0);
        elements(x, 0, 1, 2, 3, 4, 5);
        elements(x, 1, 10, 20, 30);
        is("shift(0, 3, 1, 1, 2)", x.shift(0, 3, 1, 1, 2), 2);
        elements(x, 1, 10, 4, 5);
        elements(x, 0, 1, 2, 3, 4, 5);
        is("shift(0, 0, 0, 1, 4), onward", x.shift(0, 0, 0, 1, 4), 4);
        elements(x, 0, 1, 1, 2, 3, 4);
        bytes(x, 0, 1, 2, 3, 4, 5);
        is("shift(0, 1, 0, 0, 4), back", x.shift(0, 1, 0, 0, 4), 4);
        elements(x, 0, 2, 3, 4, 5, 5);
        is("shift(0, 0, 0, 0, 5)", x.shift(0, 0, 0, 0, 5), 5);
        elements(x, 0, 2, 3, 4, 5, 5);
    }

    private static void taken() {
        promise = 37;
        SmallerOut x = bodies();
        int[][] above = {{0}, {1, 0}, {2, 0}, {3, 2, 0}, {4, 1, 0}, {5, 3, 2, 0}, {6, 0}, {7, 6, 0}};
        for (int kind = 0; kind < 8; kind++) {
            x.keep(0, kind);
            for (int k = 0; k < 8; k++) {
                boolean under = false;
                for (int one : above[kind]) {
                    under |= one == k;
                }
                is("taken(0, " + k + ") of kind " + kind, x.taken(0, k), under ? kind : -12);
            }
        }
        is("taken(0, 8)", x.taken(0, 8), BAD);
        is("taken(0, -1)", x.taken(0, -1), BAD);
        is("taken(6, 0)", x.taken(6, 0), BAD);
        is("taken(-1, 0)", x.taken(-1, 0), BAD);
        is("taken(1, 0)", x.taken(1, 0), -11);
        is("taken(1, 8), BAD ahead of -11", x.taken(1, 8), BAD);
        x.row(1, 0, 3);
        is("taken(1, 0)", x.taken(1, 0), -12);
    }

    private static void count() {
        promise = 38;
        SmallerOut x = house(3, new int[] {1, 0, 12, 1}, new int[] {30, 0, 20, 1, 10, 2, 9, 2});
        x.feed(1);
        x.feed(2);
        x.feed(3);
        x.feed(4);
        x.feed(5);
        for (int i = 0; i < 7; i++) {
            x.mend(0, 0, 10 + i);
        }
        x.undo();
        for (int i = 0; i < 8; i++) {
            x.body(5);
        }
        x.act(0, 3, 1);
        is("count(0)", x.count(0), 4);
        is("count(1)", x.count(1), 3);
        is("count(2)", x.count(2), 2);
        is("count(3)", x.count(3), 5);
        is("count(4)", x.count(4), 6);
        is("count(5)", x.count(5), 8);
        is("count(6)", x.count(6), 10);
        is("count(-1)", x.count(-1), BAD);
        is("count(7)", x.count(7), BAD);
        is("count(MIN)", x.count(LEAST), BAD);
        is("count(MAX)", x.count(MOST), BAD);
    }
}
