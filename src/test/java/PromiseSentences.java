/** Promises 1 to 38, sentence by sentence. */
final class PromiseSentences {
    private final Sentences s;

    private PromiseSentences(Sentences s) {
        this.s = s;
    }

    static void tell(Sentences s) {
        PromiseSentences all = new PromiseSentences(s);
        all.made();
        all.people();
        all.numbers();
        all.tape();
        all.changes();
        all.reach();
        all.goals();
        all.doorsAndBoots();
        all.tries();
        all.rowsTold();
        all.imageAndUndo();
        all.acts();
        all.shelves();
        all.elements();
        all.shift();
        all.taken();
    }

    // Three ROOMS in a row with DOORS UP; 0 is the tallest, in the first one.
    private static final String STAIRS = "rooms 3\ndoors 1:0 12:0\npeople 30:0 20:1 10:2\n";
    private static final String KINDS = "body(0) = 0  body(1) = 1  body(2) = 2  body(3) = 3  body(4) = 4  body(5) = 5  body(6) = 6"
            + "  body(7) = 7\n";

    private void made() {
        s.says("promise 1", "No rooms, nobody.", """
                count(0) = 0  count(1) = 0  count(2) = 0  count(3) = 0  count(4) = 0  count(5) = 0  count(6) = 0  led(0) = 0
                of(0, 0) = BAD  of(0, 10) = BAD  of(0, 20) = BAD  of(0, 30) = 5  wear(-1) = -1  wear(0) = VOID
                person(5, 0) = BAD  door(1, 0) = BAD  may(0, 1) = BAD  canBe(0) = BAD  changes(-1) = 0
                reach(0) = 1  reach(1) = 1  reach(2) = 0  image() = 0  back() = 0  undo() = STATE  redo() = STATE
                """);
        s.says("promise 2", "A ROOM: its number.", "room() = 0  of(0, 20) = 0  room() = 1  room() = 2  count(1) = 3");
        s.says("promise 2", "FULL: 4.", """
                room() = 0  room() = 1  room() = 2  count(1) = 3  room() = 3  count(1) = 4  of(3, 20) = 0
                room() = FULL  room() = FULL  count(1) = 4  of(4, 20) = BAD
                """);
        s.says("promise 3", "A DOOR (ab: 10 times the ROOM from which it goes, and the other one): its number.", """
                rooms 4
                door(1, 0) = 0  door(10, 0) = 1  door(32, 2) = 2  door(3, 1) = 3
                of(0, 10) = 1  of(1, 10) = 10  of(2, 10) = 32  of(3, 10) = 3
                people 9:3 8:2
                may(2, 1) = 1  may(2, 10) = 0                  // from 3 to 2
                """);
        s.says("promise 3", "BAD (one and the same), FULL: 5.", """
                door(0, 0) = BAD  door(1, 0) = BAD
                rooms 2
                door(0, 0) = BAD  door(11, 0) = BAD  door(2, 0) = BAD  door(20, 0) = BAD  door(12, 0) = BAD
                door(-1, 0) = BAD  door(-10, 0) = BAD  door(-11, 0) = BAD  door(9, 0) = BAD  door(19, 0) = BAD
                door(100, 0) = BAD  door(101, 0) = BAD  door(110, 0) = BAD  door(MIN, 0) = BAD  door(MAX, 0) = BAD
                door(1, -1) = BAD  door(1, 3) = BAD  door(1, MIN) = BAD  door(1, MAX) = BAD  count(2) = 0
                doors 1:0 1:0 10:1 1:2
                count(2) = 4  door(10, 2) = 4  door(1, 0) = FULL  door(10, 1) = FULL  count(2) = 5
                door(0, 0) = BAD  door(2, 0) = BAD  door(1, 3) = BAD  of(5, 10) = BAD
                """);
        s.says("promise 4", "A PERSON: the number.", """
                rooms 2
                person(1, 0) = 0  person(99, 1) = 1  of(0, 0) = 1  of(1, 0) = 99  of(0, 1) = 0  of(1, 1) = 1  of(1, 2) = 0
                count(0) = 2
                """);
        s.says("promise 4", "BAD, FULL: 7.", """
                person(5, 0) = BAD                             // no ROOM
                rooms 2
                person(0, 0) = BAD  person(100, 0) = BAD  person(-1, 0) = BAD  person(MIN, 0) = BAD  person(MAX, 0) = BAD
                person(5, 2) = BAD  person(5, -1) = BAD  person(5, MIN) = BAD  person(5, MAX) = BAD  count(0) = 0
                people 5:0 5:0 5:0 5:0 5:0 5:0
                count(0) = 6  person(5, 1) = 6  person(5, 1) = FULL  count(0) = 7
                person(100, 0) = BAD  person(5, 2) = BAD
                """);
    }

    private void people() {
        s.says("promise 5", "PEOPLE FROM A ROW on a SHELF, from place i on, n (1 .. 7) of them: how many came (0 with i below 0).",
                """
                rooms 2
                bytes 5 : 1 0 2 0 3 0 4 1 5 1 6 1 7 1 8 0
                people(5, 0, 0) = BAD  people(5, 0, -1) = BAD  people(5, 0, 8) = BAD  people(5, 0, MIN) = BAD
                people(5, 0, MAX) = BAD
                people(5, -1, 7) = 0  people(5, -2, 7) = 0  people(5, MIN, 7) = 0  people(5, MIN, 1) = 0  count(0) = 0
                people(5, 14, 1) = 1  of(0, 0) = 8             // the last two
                people(5, 15, 1) = 0  people(5, 16, 1) = 0  people(5, MAX, 7) = 0
                people(5, 2, 1) = 1  of(1, 0) = 2  count(0) = 2
                new
                rooms 2
                bytes 5 : 1 0 2 0 3 0 4 1 5 1 6 1 7 1 8 0
                people(5, 0, 7) = 7  of(0, 0) = 1  of(6, 0) = 7  of(6, 1) = 1  of(6, 2) = 0
                people(5, 0, 7) = 0  count(0) = 7
                """);
        s.says("promise 5", "BAD, -12 (no ROW of bytes; a SHELF that holds nothing is missing).", """
                rooms 1
                people(-1, 0, 1) = BAD  people(6, 0, 1) = BAD  people(MIN, 0, 1) = BAD  people(MAX, 0, 1) = BAD
                people(0, 0, 1) = 0  people(5, 0, 1) = 0       // missing
                row(1, 1, 4) = 1  people(1, 0, 1) = -12  row(1, 2, 4) = 1  people(1, 0, 1) = -12
                row(1, 3, 4) = 1  people(1, 0, 1) = -12  row(1, 4, 4) = 1  people(1, 0, 1) = -12
                row(1, 1, 0) = 1  people(1, 0, 1) = -12        // of no elements, too
                body(0) = 0  keep(1, 0) = 1  people(1, 0, 1) = -12
                keep(1, -1) = 1  people(1, 0, 1) = 0
                row(1, 0, 4) = 1  people(1, 0, 1) = 0  count(0) = 0
                """);
    }

    private void numbers() {
        s.says("promise 6", "SIZE (what 0), GROWS (1) of a PERSON, KIND (2) of a DOOR, ADD (3; number 0) becomes v: what it was.", """
                rooms 2
                doors 1:0 10:1
                people 30:0 20:1
                mend(0, 0, 1) = 30  mend(0, 0, 99) = 1  of(0, 0) = 99  of(1, 0) = 20
                mend(1, 1, 9) = 0  mend(1, 1, 0) = 9  mend(1, 1, 4) = 0  of(1, 2) = 4  of(0, 2) = 0
                mend(1, 2, 0) = 1  mend(1, 2, 2) = 0  of(1, 11) = 2  of(0, 11) = 0
                mend(0, 3, 0) = 5  mend(0, 3, 20) = 0  of(0, 30) = 20
                mend(0, 0, 99) = 99  mend(1, 1, 4) = 4  mend(1, 2, 2) = 2  mend(0, 3, 20) = 20   // as they are
                count(4) = 9
                """);
        s.says("promise 6", "BAD.", """
                mend(0, 0, 5) = BAD  mend(0, 1, 5) = BAD  mend(0, 2, 1) = BAD   // nobody, no DOOR
                rooms 2
                doors 1:0
                people 30:0 20:1
                mend(2, 0, 5) = BAD  mend(-1, 0, 5) = BAD  mend(2, 1, 5) = BAD  mend(-1, 1, 5) = BAD  mend(MIN, 0, 5) = BAD
                mend(1, 2, 0) = BAD  mend(-1, 2, 0) = BAD  mend(MAX, 2, 0) = BAD
                mend(1, 3, 6) = BAD  mend(-1, 3, 6) = BAD
                mend(0, 4, 1) = BAD  mend(0, -1, 1) = BAD  mend(0, MIN, 1) = BAD  mend(0, MAX, 1) = BAD
                mend(0, 0, 0) = BAD  mend(0, 0, 100) = BAD  mend(0, 0, -1) = BAD  mend(0, 0, MAX) = BAD
                mend(0, 1, -1) = BAD  mend(0, 1, 10) = BAD  mend(0, 1, MIN) = BAD
                mend(0, 2, -1) = BAD  mend(0, 2, 3) = BAD  mend(0, 2, MAX) = BAD
                mend(0, 3, -1) = BAD  mend(0, 3, 21) = BAD  mend(0, 3, MIN) = BAD
                of(0, 0) = 30  of(0, 2) = 0  of(0, 11) = 0  of(0, 30) = 5  count(4) = 0
                """);
        s.says("promise 7", "BOOTS are worn by a PERSON (-1: nobody): who wore them.", """
                wear(-1) = -1                                  // nobody, though nobody is there
                rooms 1
                people 30:0 20:0
                wear(1) = -1  of(1, 3) = 25  wear(0) = 1  of(0, 3) = 35  of(1, 3) = 20
                wear(0) = 0  wear(-1) = 0  of(0, 3) = 30  wear(-1) = -1
                """);
        s.says("promise 7", "VOID: BAD.", """
                wear(0) = VOID
                rooms 1
                people 30:0 20:0
                wear(2) = VOID  wear(-2) = VOID  wear(7) = VOID  wear(MIN) = VOID  wear(MAX) = VOID
                wear(1) = -1  wear(2) = VOID  wear(-1) = 1     // who wears them does so still
                """);
        s.says("promise 8", "Of a PERSON: 0 SIZE, 1 ROOM, 2 GROWS, 3 HEIGHT; of a DOOR: 10 10 times from and to, 11 KIND; of a ROOM:"
                + " 20 who is in it (bits); 30 ADD (number 0).", """
                rooms 4
                doors 20:1 3:2
                people 30:2 20:1 10:2 1:3
                of(0, 0) = 30  of(3, 0) = 1  of(0, 1) = 2  of(3, 1) = 3  of(0, 2) = 0
                mend(3, 1, 9) = 0  of(3, 2) = 9  wear(3) = -1  of(3, 3) = 6  of(0, 3) = 30
                of(0, 10) = 20  of(1, 10) = 3  of(0, 11) = 1  of(1, 11) = 2
                of(0, 20) = 0  of(1, 20) = 2  of(2, 20) = 5  of(3, 20) = 8
                of(0, 30) = 5
                new
                rooms 1
                people 1:0 1:0 1:0 1:0 1:0 1:0 1:0
                of(0, 20) = 127
                """);
        s.says("promise 8", "BAD.", """
                of(0, 0) = BAD  of(0, 3) = BAD  of(0, 10) = BAD  of(0, 11) = BAD  of(0, 20) = BAD
                rooms 2
                doors 1:0
                people 30:0
                of(1, 0) = BAD  of(1, 1) = BAD  of(1, 2) = BAD  of(1, 3) = BAD  of(-1, 0) = BAD  of(-1, 3) = BAD  of(7, 0) = BAD
                of(1, 10) = BAD  of(-1, 10) = BAD  of(5, 10) = BAD  of(1, 11) = BAD  of(-1, 11) = BAD
                of(2, 20) = BAD  of(-1, 20) = BAD  of(4, 20) = BAD
                of(1, 30) = BAD  of(-1, 30) = BAD  of(MAX, 30) = BAD
                of(0, -1) = BAD  of(0, 4) = BAD  of(0, 9) = BAD  of(0, 12) = BAD  of(0, 19) = BAD  of(0, 21) = BAD
                of(0, 29) = BAD  of(0, 31) = BAD  of(0, MIN) = BAD  of(MIN, 0) = BAD  of(MAX, MAX) = BAD
                """);
    }

    private void tape() {
        s.says("promise 9", "A byte (0 .. 255) comes to THE TAPE: how many it has.", """
                feed(0) = 1  feed(255) = 2  feed(49) = 3  count(3) = 3
                law() = -100                                   // the byte 0 came first
                feed(49) = 1  feed(255) = 2  law() = -101  feed(49) = 1  law() = 1
                """);
        s.says("promise 9", "BAD, FULL (120).", """
                feed(-1) = BAD  feed(256) = BAD  feed(MIN) = BAD  feed(MAX) = BAD  feed(305) = BAD  count(3) = 0
                times 119 feed(49)
                count(3) = 119  feed(256) = BAD  feed(50) = 120  feed(51) = FULL  feed(256) = BAD  count(3) = 120
                law() = -104  feed(49) = 1
                """);
        Player x = s.says("promise 10", "THE TAPE becomes THE LAW: 1; -100 less its FAULT; THE TAPE is empty then.", """
                rooms 2
                doors 1:0
                people 30:0 20:1
                law() = -100                                   // no bytes
                may(0, 1) = 1
                law 0 = 1
                count(3) = 0  may(0, 1) = 0  feed(49) = 1  may(0, 1) = 0   // what is on THE TAPE is no LAW yet
                law() = 1  may(0, 1) = 1
                law 0+ = -102
                count(3) = 0  may(0, 1) = 1                    // THE LAW ahead stays
                law 00000 = -104
                law() = -100  may(0, 1) = 1
                law a<b = 1
                may(0, 1) = 0
                """);
        x.law("1" + "+1".repeat(59), 1);
        x.law("0" + "+0".repeat(59), 1);
        x.is("may(0, 1)", 0);
        x = s.script("rooms 2\ndoors 1:0\npeople 30:0 20:1");
        x.law("0" + "+0".repeat(56) + "+99999", -218);
        x.law("0" + "+0".repeat(57) + "+9999", 1);
        x.is("may(0, 1)", 1);
    }

    private void changes() {
        s.says("promise 11", "A CHANGE (pq: 10 times p and q) MAY be now: 1, 0 (they are not there, too).", STAIRS + """
                may(0, 1) = 1  may(1, 12) = 1  may(0, 10) = 0  may(0, 2) = 0  may(0, 12) = 0  may(1, 1) = 0  may(1, 21) = 0
                may(0, 1) = 1  change(0, 1) = 1  may(0, 1) = 0  may(0, 10) = 0   // there, but smaller
                """);
        s.says("promise 11", "BAD (no such DOOR, PEOPLE; p is q).", STAIRS + """
                may(-1, 1) = BAD  may(2, 1) = BAD  may(5, 1) = BAD  may(MIN, 1) = BAD  may(MAX, 1) = BAD
                may(0, 3) = BAD  may(0, 13) = BAD  may(0, 30) = BAD  may(0, 31) = BAD  may(0, 7) = BAD  may(0, 70) = BAD
                may(0, 100) = BAD  may(0, 101) = BAD  may(0, -1) = BAD  may(0, -10) = BAD  may(0, MIN) = BAD  may(0, MAX) = BAD
                may(0, 0) = BAD  may(0, 11) = BAD  may(0, 22) = BAD
                """);
        s.says("promise 12", "CHANGES that MAY be now: how many (i -1), the i-th as 100 times the DOOR, 10 times p and q.", """
                changes(-1) = 0
                rooms 2
                doors 1:2 10:2 1:2 10:2 1:2
                people 9:0 9:0 9:0 9:1 9:1 9:1 9:1
                changes(-1) = 60  changes(0) = 3  changes(1) = 4  changes(3) = 6  changes(4) = 13  changes(11) = 26
                changes(12) = 130  changes(14) = 132  changes(23) = 162  changes(59) = 426
                """);
        s.says("promise 12", "BAD (none such).", "changes(0) = BAD  changes(-2) = BAD\n" + STAIRS + """
                changes(-1) = 2  changes(0) = 1  changes(1) = 112  changes(2) = BAD  changes(-2) = BAD
                changes(MIN) = BAD  changes(MAX) = BAD
                """);
        s.says("promise 13", "A CHANGE in deed: how many there were.", STAIRS + """
                change(0, 1) = 1  of(0, 1) = 1  of(1, 1) = 0  of(2, 1) = 2
                change(1, 2) = 2  of(0, 1) = 2  of(2, 1) = 1  count(4) = 0
                """);
        s.says("promise 13", "BAD (as of may()); NOT: it may not be.", STAIRS + """
                change(-1, 1) = BAD  change(2, 1) = BAD  change(0, 3) = BAD  change(0, 30) = BAD  change(0, 0) = BAD
                change(0, 11) = BAD  change(0, -1) = BAD  change(0, 101) = BAD  change(MIN, MIN) = BAD  change(0, MAX) = BAD
                change(0, 10) = NOT  change(0, 2) = NOT  change(1, 1) = NOT  change(1, 21) = NOT
                law 0 = 1
                change(0, 1) = NOT  led(0) = 0  of(0, 1) = 0
                """);
        s.says("promise 14", "LED: how many (what 0), the latest as of changes() (1).", STAIRS + """
                led(0) = 0  change(0, 1) = 1  led(0) = 1  led(1) = 1
                change(1, 2) = 2  led(0) = 2  led(1) = 102  change(0, 12) = 3  led(0) = 3  led(1) = 12
                change(0, 12) = NOT  led(0) = 3  led(1) = 12
                """);
        s.says("promise 14", "BAD; STATE (1): none.", STAIRS + """
                led(1) = STATE  led(0) = 0  led(-1) = BAD  led(2) = BAD  led(MIN) = BAD  led(MAX) = BAD
                change(0, 10) = NOT  led(1) = STATE
                """);
    }

    private void reach() {
        s.says("promise 15", "REACH: how many ARRANGEMENTS (what 0), RESTS (1), LONGEST (2; NOT).", """
                reach(0) = 1  reach(1) = 1  reach(2) = 0       // nobody
                """ + STAIRS + """
                reach(0) = 6  reach(1) = 1  reach(2) = 3
                mend(1, 2, 2) = 0  mend(0, 0, 10) = 30  mend(1, 0, 10) = 20
                reach(0) = 2  reach(1) = 0  reach(2) = NOT     // 1 and 2 are alike
                new
                rooms 2
                doors 1:0
                people 9:0 8:0 7:0 6:1 5:1 4:1 3:1
                reach(0) = 35  reach(1) = 1  reach(2) = 12
                law a=9 = 1
                reach(0) = 5  reach(1) = 4  reach(2) = 1       // nothing is left of the longer one
                """);
        s.says("promise 15", "BAD.", "reach(-1) = BAD  reach(3) = BAD  reach(MIN) = BAD  reach(MAX) = BAD");
        s.says("promise 16", "CAN BE, as bits.", STAIRS + """
                canBe(0) = 7  canBe(1) = 7  canBe(2) = 7
                change(0, 1) = 1  canBe(0) = 6  canBe(1) = 3  canBe(2) = 7
                law 0 = 1
                canBe(0) = 2  canBe(1) = 1  canBe(2) = 4
                new
                rooms 4
                people 9:3
                canBe(0) = 8
                """);
        s.says("promise 16", "BAD.", "canBe(0) = BAD\n" + STAIRS
                + "canBe(3) = BAD  canBe(-1) = BAD  canBe(7) = BAD  canBe(MIN) = BAD  canBe(MAX) = BAD");
    }

    private void goals() {
        s.says("promise 17", "FEWEST to a GOAL (goer -1), by a GOER.", STAIRS + """
                fewest(1, 0, -1) = 0  fewest(1, 1, -1) = 1  fewest(1, 2, -1) = 2  fewest(2, 2, -1) = 1
                fewest(1, 2, 0) = 2  fewest(4, 0, 2) = 2  fewest(2, 0, 0) = 1  fewest(1, 0, 2) = 0
                """);
        s.says("promise 17", "BAD; NOT.", STAIRS + """
                fewest(0, 0, -1) = BAD  fewest(8, 0, -1) = BAD  fewest(-1, 0, -1) = BAD  fewest(128, 0, -1) = BAD
                fewest(MIN, 0, -1) = BAD  fewest(MAX, 0, -1) = BAD
                fewest(1, 3, -1) = BAD  fewest(1, -1, -1) = BAD  fewest(1, MAX, -1) = BAD
                fewest(1, 0, -2) = BAD  fewest(1, 0, 3) = BAD  fewest(1, 0, MIN) = BAD  fewest(1, 0, MAX) = BAD
                fewest(3, 0, -1) = NOT  fewest(7, 2, -1) = NOT  fewest(1, 2, 1) = NOT  fewest(2, 0, 2) = NOT
                new
                rooms 1
                fewest(1, 0, -1) = BAD                         // nobody
                """);
        s.says("promise 18", "FIRST to a GOAL, as of changes().", STAIRS + """
                first(1, 1) = 1  first(1, 2) = 1  first(4, 0) = 112  first(4, 1) = 112  first(2, 2) = 112
                """);
        s.says("promise 18", "BAD; STATE: it is so; NOT.", STAIRS + """
                first(0, 0) = BAD  first(8, 0) = BAD  first(-1, 0) = BAD  first(MIN, 0) = BAD  first(1, 3) = BAD
                first(1, -1) = BAD  first(1, MAX) = BAD
                first(1, 0) = STATE  first(2, 1) = STATE  first(4, 2) = STATE  first(3, 0) = NOT  first(7, 0) = NOT
                change(0, 1) = 1  first(1, 1) = STATE  first(1, 0) = NOT
                """);
    }

    private void doorsAndBoots() {
        s.says("promise 19", "TURN, as bits.", """
                rooms 3
                doors 1:0 12:0
                people 30:2 20:1 10:0
                turn(1, 2) = 0  turn(1, 1) = 2  turn(4, 1) = 1  turn(1, 0) = 3
                """);
        s.says("promise 19", "BAD; NOT.", STAIRS + """
                turn(0, 0) = BAD  turn(8, 0) = BAD  turn(-1, 0) = BAD  turn(MIN, 0) = BAD  turn(1, 3) = BAD  turn(1, -1) = BAD
                turn(3, 0) = NOT  turn(7, 2) = NOT
                law 0 = 1
                turn(1, 1) = NOT  turn(1, 0) = 0
                """);
        s.says("promise 20", "BOOTS FOR (what 0; -1: nobody), FEWEST then (1).", STAIRS + """
                boots(1, 2, 0) = -1  boots(1, 2, 1) = 2  boots(1, 0, 1) = 0  boots(1, 0, 0) = -1
                mend(2, 0, 33) = 10
                boots(1, 2, 0) = 0  boots(1, 2, 1) = 2
                """);
        s.says("promise 20", "VOID: BAD; NOT.", STAIRS + """
                boots(0, 0, 0) = VOID  boots(8, 0, 0) = VOID  boots(-1, 0, 1) = VOID  boots(MIN, 0, 0) = VOID
                boots(1, 3, 0) = VOID  boots(1, -1, 1) = VOID  boots(1, 0, 2) = VOID  boots(1, 0, -1) = VOID
                boots(1, 0, MIN) = VOID  boots(1, 0, MAX) = VOID
                boots(3, 0, 0) = NOT  boots(3, 0, 1) = NOT
                """);
        s.says("promise 21", "MONTH.", STAIRS + """
                month(1, 2) = 0  month(1, 0) = 0
                mend(2, 0, 53) = 10  mend(0, 1, 1) = 0  month(1, 2) = 24   // 54 is above 53
                mend(2, 0, 52) = 53  month(1, 2) = 23
                mend(0, 1, 9) = 1  month(1, 2) = 3
                """);
        s.says("promise 21", "BAD; NOT.", STAIRS + """
                month(0, 0) = BAD  month(8, 0) = BAD  month(-1, 0) = BAD  month(MAX, 0) = BAD  month(1, 3) = BAD  month(1, -1) = BAD
                month(3, 0) = NOT
                mend(2, 0, 54) = 10  mend(0, 1, 1) = 0  month(1, 2) = NOT   // in MONTH 25
                """);
    }

    private void tries() {
        s.says("promise 22", "TRIES: how many CHANGES (person -1, what 0), how many TRIES till none MAY be (person -1, what 1; NOT);"
                + " the ROOM of a PERSON (what 0).", """
                rooms 2
                doors 1:0
                people 30:0 20:1
                tries(9, 5, -1, 0) = 1  tries(9, 5, -1, 1) = 1  tries(9, 5, 0, 0) = 1  tries(9, 5, 1, 0) = 0
                tries(MIN, 1, -1, 0) = 1  tries(MAX, 99, -1, 1) = 1  tries(-1, 99, 0, 0) = 1
                law 1 = 1
                tries(9, 5, -1, 0) = 5  tries(9, 5, -1, 1) = NOT  tries(9, 6, 0, 0) = 0
                law 0 = 1
                tries(9, 5, -1, 0) = 0  tries(9, 5, -1, 1) = 0  tries(9, 5, 0, 0) = 0
                """);
        s.says("promise 22", "BAD; STATE: no DOORS.", """
                tries(1, 1, -1, 0) = STATE  tries(1, 99, -1, 1) = STATE  tries(1, 0, -1, 0) = BAD  tries(1, 1, 0, 0) = BAD
                rooms 2
                people 30:0 20:1
                tries(1, 1, -1, 0) = STATE  tries(1, 1, 0, 0) = STATE  tries(1, 1, 2, 0) = BAD  tries(1, 100, 0, 0) = BAD
                doors 1:0
                tries(1, 0, -1, 0) = BAD  tries(1, 100, -1, 0) = BAD  tries(1, -1, -1, 0) = BAD  tries(1, MIN, -1, 0) = BAD
                tries(1, MAX, 0, 0) = BAD  tries(1, 1, 2, 0) = BAD  tries(1, 1, -2, 0) = BAD  tries(1, 1, MIN, 0) = BAD
                tries(1, 1, MAX, 0) = BAD  tries(1, 1, 0, 1) = BAD  tries(1, 1, 0, 2) = BAD  tries(1, 1, 0, -1) = BAD
                tries(1, 1, -1, 2) = BAD  tries(1, 1, -1, -1) = BAD  tries(1, 1, -1, MAX) = BAD  tries(1, 1, -1, 0) = 1
                """);
    }

    private void rowsTold() {
        s.says("promise 23", "JUDGED.", STAIRS + """
                bytes 3 : 0 0 1  1 0 2  0 1 2
                judge(3) = NOT  put(3, 8, 0) = 1  judge(3) = 2  put(3, 3, 2) = 1  judge(3) = 1  put(3, 2, 2) = 1  judge(3) = 0
                law d=1 = 1
                bytes 3 : 1 1 2  0 0 1
                judge(3) = 1
                """);
        s.says("promise 23", "BAD, -11, -12 (no ROW of bytes); NOT.", """
                judge(-1) = BAD  judge(6) = BAD  judge(MIN) = BAD  judge(MAX) = BAD  judge(0) = -11  judge(5) = -11
                body(0) = 0  keep(0, 0) = 1  judge(0) = -12
                row(0, 1, 3) = 1  judge(0) = -12  row(0, 2, 3) = 1  judge(0) = -12  row(0, 3, 3) = 1  judge(0) = -12
                row(0, 4, 3) = 1  judge(0) = -12  row(0, 1, 0) = 1  judge(0) = -12
                row(0, 0, 0) = 1  judge(0) = NOT  row(0, 0, 1) = 1  judge(0) = 0  row(0, 0, 60) = 1  judge(0) = 0
                keep(0, -1) = 1  judge(0) = -11
                """);
        s.says("promise 24", "SEEN.", STAIRS + """
                bytes 3 : 0 1 2
                seen(3) = 0
                bytes 3 : 2 1 0
                seen(3) = 3
                bytes 3 : 1 0 2 9
                seen(3) = 1
                """);
        s.says("promise 24", "BAD, -11, -12 (no ROW of bytes); NOT.", """
                seen(-1) = BAD  seen(6) = BAD  seen(MIN) = BAD  seen(MAX) = BAD  seen(0) = -11  seen(5) = -11
                body(0) = 0  keep(0, 0) = 1  seen(0) = -12
                row(0, 1, 3) = 1  seen(0) = -12  row(0, 2, 3) = 1  seen(0) = -12  row(0, 3, 3) = 1  seen(0) = -12
                row(0, 4, 3) = 1  seen(0) = -12  row(0, 1, 0) = 1  seen(0) = -12
                row(0, 0, 0) = 1  seen(0) = 0
                """ + STAIRS + """
                seen(0) = NOT  row(0, 0, 2) = 1  seen(0) = NOT  row(0, 0, 3) = 1  seen(0) = NOT
                put(0, 1, 1) = 1  put(0, 2, 2) = 1  seen(0) = 0  put(0, 2, 3) = 1  seen(0) = NOT  keep(0, -1) = 1  seen(0) = -11
                """);
    }

    private void imageAndUndo() {
        s.says("promise 25", "AN IMAGE is kept: how many PEOPLE.", "image() = 0  back() = 0\n" + STAIRS + """
                back() = 0  of(0, 1) = 0                       // the one of nobody
                image() = 3  change(0, 1) = 1  wear(2) = -1  image() = 3   // a later one stands for the one ahead
                change(1, 2) = 2  wear(-1) = 2
                back() = 3  of(0, 1) = 1  of(1, 1) = 0  of(2, 1) = 2  wear(2) = 2
                person(5, 0) = 3  image() = 4
                new
                rooms 2
                people 1:0 1:0 1:0 1:0 1:0 1:0 1:1
                image() = 7  back() = 7  of(6, 1) = 1
                """);
        s.says("promise 26", "It is laid back (PEOPLE that came since stay where they are): how many PEOPLE it knew.", STAIRS + """
                image() = 3  person(5, 0) = 3  person(40, 0) = 4  wear(4) = -1  mend(0, 0, 31) = 30
                change(0, 41) = 1  change(1, 42) = 2
                back() = 3  of(0, 1) = 0  of(1, 1) = 1  of(2, 1) = 2  of(3, 1) = 0  of(4, 1) = 2   // 4 stays where 4 came to
                wear(-1) = -1  of(0, 0) = 31  led(0) = 2  count(4) = 1
                change(0, 1) = 3  back() = 3  of(0, 1) = 0     // it can be laid back again
                """);
        s.says("promise 26", "STATE: there is none.", "back() = STATE\n" + STAIRS + "back() = STATE  change(0, 1) = 1  back() = STATE\n"
                + "of(0, 1) = 1  image() = 3  back() = 3");
        s.says("promise 27", "UNDONE: how many may still be.", STAIRS + """
                mend(0, 0, 31) = 30  mend(0, 1, 2) = 0  mend(1, 2, 1) = 0  mend(0, 3, 0) = 5  mend(0, 3, 20) = 0
                undo() = 4  of(0, 30) = 0  undo() = 3  of(0, 30) = 5  undo() = 2  of(1, 11) = 0
                undo() = 1  of(0, 2) = 0  undo() = 0  of(0, 0) = 30  count(4) = 0
                """);
        s.says("promise 27", "STATE: none.", "undo() = STATE\n" + STAIRS + """
                undo() = STATE  mend(0, 0, 30) = 30  undo() = STATE   // it is what it was
                mend(0, 0, 100) = BAD  change(0, 1) = 1  wear(0) = -1  image() = 3  undo() = STATE   // no change of numbers
                mend(0, 0, 31) = 30  undo() = 0  undo() = STATE  of(0, 0) = 30
                """);
        s.says("promise 28", "DONE AGAIN: how many may still be.", STAIRS + """
                mend(0, 0, 31) = 30  mend(0, 1, 2) = 0  mend(1, 2, 1) = 0
                undo() = 2  redo() = 0  of(1, 11) = 1  undo() = 2  undo() = 1  undo() = 0
                redo() = 2  of(0, 0) = 31  redo() = 1  of(0, 2) = 2  redo() = 0  of(1, 11) = 1  count(4) = 3
                """);
        s.says("promise 28", "STATE: none.", "redo() = STATE\n" + STAIRS + """
                mend(0, 0, 31) = 30  redo() = STATE  undo() = 0  redo() = 0  redo() = STATE  of(0, 0) = 31
                undo() = 0  mend(1, 0, 21) = 20  redo() = STATE  of(0, 0) = 30   // another one came
                undo() = 0  mend(1, 0, 20) = 20  redo() = 0  of(1, 0) = 21       // none came
                """);
    }

    private void acts() {
        s.says("promise 29", "A BODY of a KIND (0 .. 7) is kept: its number.", KINDS + """
                count(5) = 8  body(0) = 8  keep(0, 8) = 1  taken(0, 0) = 0  keep(0, 7) = 1  taken(0, 0) = 7
                """);
        s.says("promise 29", "BAD, FULL.", """
                body(-1) = BAD  body(8) = BAD  body(MIN) = BAD  body(MAX) = BAD  count(5) = 0
                times 49 body(2)
                body(7) = 49  body(0) = FULL  body(8) = BAD  count(5) = 50
                """);
        s.says("promise 30", "An ACT (0 .. 3) of a BODY with x.", KINDS + """
                act(4, 0, 5) = 12  act(3, 1, 5) = -18  act(5, 2, 5) = -7  act(7, 3, 5) = 45  act(0, 3, 5) = 9
                act(1, 0, MAX) = -2147483645  act(0, 0, MIN) = MIN  act(7, 2, 0) = 7
                """);
        s.says("promise 30", "0, and no TRACE then: no such BODY, ACT.", """
                act(0, 0, 5) = 0  count(6) = 0
                """ + KINDS + """
                act(0, 0, 5) = 5  count(6) = 1  act(8, 0, 5) = 0  count(6) = 0  trace(0) = BAD
                act(0, 0, 5) = 5  act(-1, 0, 5) = 0  count(6) = 0
                act(0, 0, 5) = 5  act(0, 4, 5) = 0  count(6) = 0  trace(0) = BAD
                act(0, 0, 5) = 5  act(0, -1, 5) = 0  count(6) = 0
                act(MIN, 0, 5) = 0  act(MAX, 0, 5) = 0  act(0, MIN, 5) = 0  act(0, MAX, 5) = 0  act(50, 0, 5) = 0
                """);
        s.says("promise 31", "THE TRACE's i-th body.", KINDS + """
                act(7, 3, 5) = 45  count(6) = 8                // tells, bars, bars, lets, lets, lets, turns, turns
                trace(0) = 2  trace(1) = 80  trace(2) = 10  trace(3) = 81  trace(4) = 70  trace(5) = 1  trace(6) = 11  trace(7) = 11
                """);
        s.says("promise 31", "BAD.", "trace(0) = BAD\n" + KINDS + """
                act(0, 1, 5) = 10  trace(1) = 1  trace(2) = BAD  trace(-1) = BAD  trace(23) = BAD  trace(24) = BAD  trace(MIN) = BAD
                trace(MAX) = BAD
                """);
    }

    private void shelves() {
        s.says("promise 32", "A SHELF holds nothing (body -1), or a BODY: 1.", KINDS + """
                keep(0, -1) = 1  taken(0, 0) = -11  keep(0, 0) = 1  taken(0, 0) = 0  keep(5, 7) = 1  taken(5, 0) = 7
                keep(0, 3) = 1  taken(0, 0) = 3  keep(0, -1) = 1  taken(0, 0) = -11  taken(5, 0) = 7
                row(0, 0, 2) = 1  keep(0, 1) = 1  put(0, 0, 1) = -12  row(0, 0, 2) = 1  keep(0, -1) = 1  put(0, 0, 1) = -11
                """);
        s.says("promise 32", "BAD.", """
                keep(0, 0) = BAD                               // no BODY
                body(3) = 0
                keep(-1, 0) = BAD  keep(6, 0) = BAD  keep(6, -1) = BAD  keep(MIN, -1) = BAD  keep(MAX, 0) = BAD
                keep(0, 1) = BAD  keep(0, -2) = BAD  keep(0, MIN) = BAD  keep(0, MAX) = BAD  taken(0, 0) = -11
                """);
        s.says("promise 33", "A SHELF holds a ROW: 1.", """
                row(0, 0, 0) = 1  put(0, 0, 1) = -13  row(0, 4, 60) = 1  element(0, 59) = 0  row(5, 3, 1) = 1  element(5, 0) = 0
                put(5, 0, 7) = 1  row(5, 3, 1) = 1  element(5, 0) = 0   // another one, of 0 at first
                body(1) = 0  keep(5, 0) = 1  row(5, 1, 2) = 1  taken(5, 1) = -12
                """);
        s.says("promise 33", "BAD (sort, n above 60); -14.", """
                row(0, -1, 1) = BAD  row(0, 5, 1) = BAD  row(0, MIN, 1) = BAD  row(0, MAX, 1) = BAD
                row(0, 0, 61) = BAD  row(0, 4, 61) = BAD  row(0, 3, MAX) = BAD  row(-1, 0, 1) = BAD  row(6, 0, 1) = BAD
                row(0, 0, -1) = -14  row(0, 4, MIN) = -14  row(0, 5, -1) = BAD  row(6, 0, -1) = BAD  put(0, 0, 1) = -11
                """);
    }

    private void elements() {
        s.says("promise 34", "Element i of a ROW becomes v: 1.", """
                row(0, 2, 3) = 1  put(0, 0, 5) = 1  put(0, 2, -6) = 1  element(0, 0) = 5  element(0, 1) = 0  element(0, 2) = -6
                put(0, 0, 2147483648) = 1  element(0, 0) = MIN  put(0, 0, 4294967296) = 1  element(0, 0) = 0
                row(0, 0, 1) = 1  put(0, 0, 128) = 1  element(0, 0) = -128  row(0, 1, 1) = 1  put(0, 0, 32768) = 1
                element(0, 0) = -32768  row(0, 3, 1) = 1  put(0, 0, LEAST) = 1  put(0, 0, MOST) = 1  element(0, 0) = MOST
                row(0, 4, 1) = 1  put(0, 0, 256) = 1  element(0, 0) = 1  put(0, 0, LEAST) = 1  element(0, 0) = 1
                put(0, 0, 0) = 1  element(0, 0) = 0
                """);
        s.says("promise 34", "BAD, -11, -12, -13.", """
                put(-1, 0, 1) = BAD  put(6, 0, 1) = BAD  put(MIN, 0, 1) = BAD  put(0, 0, 1) = -11
                body(0) = 0  keep(0, 0) = 1  put(0, 0, 1) = -12
                row(0, 0, 2) = 1  put(0, -1, 1) = -13  put(0, 2, 1) = -13  put(0, 60, 1) = -13  put(0, MIN, 1) = -13
                put(0, MAX, 1) = -13  put(0, 1, 1) = 1
                row(0, 0, 0) = 1  put(0, 0, 1) = -13
                """);
        s.says("promise 35", "Element i of a ROW; Long.MIN_VALUE: BAD, -11 to -13.", """
                element(-1, 0) = LEAST  element(6, 0) = LEAST  element(MAX, 0) = LEAST  element(0, 0) = LEAST
                body(0) = 0  keep(0, 0) = 1  element(0, 0) = LEAST
                row(0, 3, 2) = 1  put(0, 0, 1) = 1  put(0, 1, -11) = 1  element(0, 0) = 1  element(0, 1) = -11
                element(0, -1) = LEAST  element(0, 2) = LEAST  element(0, MIN) = LEAST  element(0, MAX) = LEAST
                row(0, 0, 0) = 1  element(0, 0) = LEAST  keep(0, -1) = 1  element(0, 0) = LEAST
                """);
    }

    private void shift() {
        s.says("promise 36", "n elements of a ROW from i on come to another one (or the same) from j on, as they all were before: n.", """
                bytes 0 : 1 2 3 4 5
                bytes 1 : 10 20 30
                shift(0, 3, 1, 1, 2) = 2  element(1, 0) = 10  element(1, 1) = 4  element(1, 2) = 5  element(0, 3) = 4
                shift(0, 0, 0, 1, 4) = 4                       // onward over itself
                element(0, 0) = 1  element(0, 1) = 1  element(0, 2) = 2  element(0, 3) = 3  element(0, 4) = 4
                shift(0, 1, 0, 0, 4) = 4                       // and back
                element(0, 0) = 1  element(0, 1) = 2  element(0, 2) = 3  element(0, 3) = 4  element(0, 4) = 4
                shift(0, 0, 0, 0, 5) = 5  element(0, 4) = 4
                shift(0, 0, 1, 0, 0) = 0  shift(0, 5, 1, 3, 0) = 0  element(1, 0) = 10   // none, at the ends, too
                row(2, 0, 0) = 1  shift(2, 0, 0, 5, 0) = 0  shift(2, 0, 2, 0, 0) = 0
                row(3, 3, 60) = 1  put(3, 0, LEAST) = 1  put(3, 59, MOST) = 1  row(4, 3, 60) = 1
                shift(3, 0, 4, 0, 60) = 60  element(4, 0) = LEAST  element(4, 59) = MOST
                shift(3, 59, 4, 0, 1) = 1  element(4, 0) = MOST
                row(3, 4, 2) = 1  put(3, 1, 9) = 1  row(4, 4, 2) = 1  shift(3, 0, 4, 0, 2) = 2  element(4, 1) = 1
                """);
        s.says("promise 36", "BAD, -11 (either), -12 (no ROWS, or of unlike sorts), -13 (n below 0, too).", """
                bytes 0 : 1 2 3 4 5
                bytes 1 : 10 20 30
                shift(-1, 0, 0, 0, 1) = BAD  shift(6, 0, 0, 0, 1) = BAD  shift(0, 0, -1, 0, 1) = BAD  shift(0, 0, 6, 0, 1) = BAD
                shift(2, 0, 0, 0, 1) = -11  shift(0, 0, 2, 0, 1) = -11  shift(2, 0, 2, 0, 0) = -11
                body(0) = 0  keep(3, 0) = 1
                shift(3, 0, 0, 0, 1) = -12  shift(0, 0, 3, 0, 1) = -12  shift(3, 0, 3, 0, 0) = -12
                shift(3, 0, 2, 0, 1) = -11  shift(2, 0, 3, 0, 1) = -11
                row(4, 1, 5) = 1  shift(0, 0, 4, 0, 1) = -12  shift(4, 0, 0, 0, 1) = -12  shift(0, 0, 4, 0, 0) = -12
                row(4, 4, 5) = 1  shift(0, 0, 4, 0, 1) = -12  row(5, 3, 5) = 1  shift(4, 0, 5, 0, 1) = -12
                shift(0, 0, 1, 0, -1) = -13  shift(0, 0, 1, 0, MIN) = -13
                shift(0, -1, 1, 0, 1) = -13  shift(0, 0, 1, -1, 1) = -13  shift(0, -1, 1, 0, 0) = -13  shift(0, 0, 1, -1, 0) = -13
                shift(0, 5, 1, 0, 1) = -13  shift(0, 0, 1, 3, 1) = -13  shift(0, 6, 1, 0, 0) = -13  shift(0, 0, 1, 4, 0) = -13
                shift(0, 0, 1, 0, 4) = -13  shift(1, 0, 0, 0, 4) = -13  shift(1, 2, 0, 0, 2) = -13  shift(0, 0, 1, 2, 2) = -13
                shift(0, MAX, 1, 0, MAX) = -13  shift(0, 1, 1, 1, MAX) = -13  shift(0, MIN, 1, MIN, MIN) = -13
                shift(0, 0, 1, MAX, 1) = -13
                element(1, 0) = 10  element(1, 1) = 20  element(1, 2) = 30  element(0, 0) = 1  element(0, 4) = 5
                """);
    }

    private void taken() {
        s.says("promise 37", "What a SHELF holds, taken for a BODY of KIND k (0 .. 7), or under it: its KIND.", KINDS + """
                keep(0, 0) = 1  taken(0, 0) = 0  keep(0, 5) = 1  taken(0, 5) = 5  taken(0, 3) = 5  taken(0, 2) = 5  taken(0, 0) = 5
                keep(0, 4) = 1  taken(0, 4) = 4  taken(0, 1) = 4  taken(0, 0) = 4  keep(0, 7) = 1  taken(0, 7) = 7  taken(0, 6) = 7
                taken(0, 0) = 7
                """);
        s.says("promise 37", "BAD, -11, -12.", KINDS + """
                taken(-1, 0) = BAD  taken(6, 0) = BAD  taken(MIN, 0) = BAD  taken(MAX, 0) = BAD  taken(0, -1) = BAD  taken(0, 8) = BAD
                taken(0, 0) = -11  taken(5, 7) = -11
                row(1, 0, 0) = 1  taken(1, 0) = -12  row(1, 4, 3) = 1  taken(1, 0) = -12  taken(1, 8) = BAD
                keep(0, 5) = 1  taken(0, 4) = -12  taken(0, 1) = -12  taken(0, 6) = -12  taken(0, 7) = -12
                keep(0, 0) = 1  taken(0, 1) = -12  taken(0, 2) = -12  taken(0, 6) = -12   // not what is under it
                keep(0, 3) = 1  taken(0, 5) = -12  keep(0, 6) = 1  taken(0, 7) = -12
                """);
        s.says("promise 38", "How many: 0 PEOPLE, 1 ROOMS, 2 DOORS, 3 bytes on THE TAPE, 4 changes of numbers that may be UNDONE, 5"
                + " BODIES, 6 bodies that ran in the latest act() (all, kept or not).", """
                count(0) = 0  count(1) = 0  count(2) = 0  count(3) = 0  count(4) = 0  count(5) = 0  count(6) = 0
                """ + STAIRS + """
                person(9, 2) = 3
                tape 12345
                mend(0, 0, 11) = 30  mend(0, 0, 12) = 11  mend(0, 0, 13) = 12  mend(0, 0, 14) = 13  mend(0, 0, 14) = 14  undo() = 3
                times 8 body(5)
                act(0, 3, 1)
                count(0) = 4  count(1) = 3  count(2) = 2  count(3) = 5  count(4) = 3  count(5) = 8  count(6) = 10
                redo() = 0  count(4) = 4  law() = -104  count(3) = 0  act(8, 0, 1) = 0  count(6) = 0
                """);
        s.says("promise 38", "BAD.", "count(-1) = BAD  count(7) = BAD  count(MIN) = BAD  count(MAX) = BAD");
    }
}
