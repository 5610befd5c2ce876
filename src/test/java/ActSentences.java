/** Terms 4: bodies and what their acts do, shelves and refusals, people from a row. */
final class ActSentences {
    private final Sentences s;

    private ActSentences(Sentences s) {
        this.s = s;
    }

    static void tell(Sentences s) {
        ActSentences acts = new ActSentences(s);
        acts.kept();
        acts.acts();
        acts.above();
        acts.trace();
        acts.shelves();
        acts.refusals();
        acts.fromRow();
    }

    private static final String ALL = "body(0) = 0  body(1) = 1  body(2) = 2  body(3) = 3  body(4) = 4  body(5) = 5  body(6) = 6"
            + "  body(7) = 7\n";

    private void kept() {
        s.says("Terms 4", "BODIES 0 .. 49 are kept by call, of KINDS: 0 DOOR; 1 UP under DOOR; 2 DOWN under DOOR; 3 ALIKE under"
                + " DOWN; 4 BOOT under UP; 5 HATCH under ALIKE; 6 TOLD under DOOR; 7 BACK under TOLD.", """
                act(0, 0, 1) = 0  keep(0, 0) = BAD             // none is kept
                body(-1) = BAD  body(8) = BAD  body(MIN) = BAD  body(MAX) = BAD  count(5) = 0
                """ + ALL + """
                times 41 body(7)
                body(3) = 49  body(0) = FULL  count(5) = 50
                keep(0, 49) = 1  taken(0, 0) = 3
                keep(0, 48) = 1  taken(0, 0) = 7
                keep(0, 50) = BAD  keep(0, -2) = BAD  taken(0, 0) = 7
                act(49, 0, 1) = 50  act(50, 0, 1) = 0  act(-1, 0, 1) = 0
                """);
        // By KIND of the body those that it is of or under: itself, and up to DOOR.
        int[][] under = {{0}, {1, 0}, {2, 0}, {3, 2, 0}, {4, 1, 0}, {5, 3, 2, 0}, {6, 0}, {7, 6, 0}};
        Player x = s.script(ALL);
        for (int kind = 0; kind < 8; kind++) {
            x.is("keep(2, " + kind + ")", 1);
            int due = 0;
            for (int one : under[kind]) {
                due |= 1 << one;
            }
            for (int k = 0; k < 8; k++) {
                x.is("taken(2, " + k + ")", (due >> k & 1) != 0 ? kind : -12);
            }
        }
    }

    /** An act of the body whose number is its KIND, with x; what is due, and the bodies that run. */
    private void runs(String words, String acts) {
        s.says("Terms 4", words, ALL + acts);
    }

    private void acts() {
        runs("ACTS with x (an int that wraps): 0 lets, 1 bars, 2 turns, 3 tells; n its number.", """
                act(0, 0, 5) = 5  act(0, 1, 5) = 10  act(0, 2, 5) = 5  act(0, 3, 5) = 9
                act(0, -1, 5) = 0  act(0, 4, 5) = 0  act(0, MIN, 5) = 0  act(0, MAX, 5) = 0
                act(8, 0, 5) = 0  act(-1, 0, 5) = 0  act(MAX, 0, 5) = 0  act(MIN, 0, 5) = 0
                body(0) = 8
                act(8, 0, 5) = 13  act(8, 2, 5) = 13  act(8, 1, 5) = 26   // n is the number, not the KIND
                act(8, 0, MAX) = -2147483641  act(0, 1, MAX) = -2  act(0, 1, MIN) = 0
                act(8, 2, MIN) = -2147483640  act(8, 2, -1) = -9
                act(0, 3, MIN) = -1  act(0, 3, 1073741824) = MAX
                """);
        s.script("times 50 body(0)\nact(49, 0, 1) = 50  act(49, 2, 49) = 0  act(1, 0, 1) = 2  act(48, 2, 1) = 49");
        runs("BODIES of acts: LETS (an interface of DOOR): 1 lets: x + n.", """
                act(0, 0, 7) = 7  trace(0) = 1  count(6) = 1
                act(2, 0, 7) = 9  trace(0) = 1  act(3, 0, 7) = 10  act(5, 0, 7) = 12  count(6) = 1
                act(3, 0, MAX) = -2147483646  act(3, 0, -3) = 0
                """);
        runs("DOOR: 10 bars: lets(x) * 2.", """
                act(0, 1, 7) = 14  trace(0) = 10  trace(1) = 1  count(6) = 2
                act(1, 1, 7) = 22  trace(0) = 10  trace(1) = 20  trace(2) = 1  count(6) = 3
                act(6, 1, 7) = 52  trace(1) = 70
                act(0, 1, 1073741824) = MIN
                """);
        runs("11 turns: x ^ n.", """
                act(0, 2, 7) = 7  act(1, 2, 7) = 6  act(2, 2, 7) = 5  act(7, 2, 7) = 0  act(7, 2, -1) = -8
                trace(0) = 11  count(6) = 1
                """);
        runs("TELLS (of DOOR): 2 tells: bars(x) - turns(1).", """
                act(0, 3, 7) = 13  trace(0) = 2  trace(1) = 10  trace(2) = 1  trace(3) = 11  count(6) = 4
                act(1, 3, 7) = 22  act(2, 3, 7) = -21
                """);
        runs("UP: 20 lets: super.lets(x) + 3.", """
                act(1, 0, 7) = 11  trace(0) = 20  trace(1) = 1  count(6) = 2
                act(4, 0, 7) = 14  trace(0) = 20
                act(1, 0, MAX) = -2147483645
                """);
        runs("DOWN: 30 bars: -super.bars(x).", """
                act(2, 1, 7) = -18  trace(0) = 30  trace(1) = 10  trace(2) = 1  count(6) = 3
                act(2, 1, 1073741822) = MIN                    // what is least is so turned, too
                """);
        runs("ALIKE: 40 turns: super.turns(x) * 3.", """
                act(3, 2, 7) = 12  trace(0) = 40  trace(1) = 11  count(6) = 2
                act(3, 2, 1073741827) = -1073741824
                """);
        runs("41 bars: super.bars(x + 1).", """
                act(3, 1, 7) = -22  trace(0) = 41  trace(1) = 30  trace(2) = 10  trace(3) = 1  count(6) = 4
                act(3, 1, MAX) = -6
                """);
        runs("BOOT: 50 tells: super.tells(x) ^ 5.", """
                act(4, 3, 7) = 18  trace(0) = 50  trace(1) = 2  trace(2) = 10  trace(3) = 20  trace(4) = 1  trace(5) = 11
                count(6) = 6
                """);
        runs("HATCH: 60 turns: super.turns(x) - lets(2).", """
                act(5, 2, 7) = -1  trace(0) = 60  trace(1) = 40  trace(2) = 11  trace(3) = 1  count(6) = 4
                """);
        runs("61 tells: super.tells(x) + 1.", """
                act(5, 3, 7) = -30  trace(0) = 61  trace(1) = 2  trace(2) = 41  trace(3) = 30  trace(4) = 10  trace(5) = 1
                trace(6) = 60  trace(7) = 40  trace(8) = 11  trace(9) = 1  trace(10) = BAD  count(6) = 10
                """);
        runs("TOLD: 70 lets: super.lets(x) * 2.", """
                act(6, 0, 7) = 26  trace(0) = 70  trace(1) = 1  count(6) = 2
                act(6, 0, 1073741818) = MIN
                """);
        runs("BACK: 80 bars: super.bars(x) + turns(2).", """
                act(7, 1, 7) = 59  trace(0) = 80  trace(1) = 10  trace(2) = 81  trace(3) = 70  trace(4) = 1  trace(5) = 11
                count(6) = 6
                """);
        runs("81 lets: super.lets(x) - 1.", """
                act(7, 0, 7) = 27  trace(0) = 81  trace(1) = 70  trace(2) = 1  count(6) = 3
                act(7, 0, -7) = -1  act(7, 0, 1073741817) = MAX
                """);
    }

    // What the KINDS are, said by Java's own: interfaces, classes and super.

    private interface Lets {
        int n();

        void ran(int body);

        default int lets(int x) {
            ran(1);
            return x + n();
        }
    }

    private interface Tells {
        void ran(int body);

        int bars(int x);

        int turns(int x);

        default int tells(int x) {
            ran(2);
            return bars(x) - turns(1);
        }
    }

    private static class Door implements Lets, Tells {
        int number = 0;
        final StringBuilder trace = new StringBuilder();

        @Override
        public int n() {
            return number;
        }

        @Override
        public void ran(int body) {
            trace.append(body).append(' ');
        }

        @Override
        public int bars(int x) {
            ran(10);
            return lets(x) * 2;
        }

        @Override
        public int turns(int x) {
            ran(11);
            return x ^ n();
        }
    }

    private static class Up extends Door {
        @Override
        public int lets(int x) {
            ran(20);
            return super.lets(x) + 3;
        }
    }

    private static class Down extends Door {
        @Override
        public int bars(int x) {
            ran(30);
            return -super.bars(x);
        }
    }

    private static class Alike extends Down {
        @Override
        public int turns(int x) {
            ran(40);
            return super.turns(x) * 3;
        }

        @Override
        public int bars(int x) {
            ran(41);
            return super.bars(x + 1);
        }
    }

    private static class Boot extends Up {
        @Override
        public int tells(int x) {
            ran(50);
            return super.tells(x) ^ 5;
        }
    }

    private static class Hatch extends Alike {
        @Override
        public int turns(int x) {
            ran(60);
            return super.turns(x) - lets(2);
        }

        @Override
        public int tells(int x) {
            ran(61);
            return super.tells(x) + 1;
        }
    }

    private static class Told extends Door {
        @Override
        public int lets(int x) {
            ran(70);
            return super.lets(x) * 2;
        }
    }

    private static class Back extends Told {
        @Override
        public int bars(int x) {
            ran(80);
            return super.bars(x) + turns(2);
        }

        @Override
        public int lets(int x) {
            ran(81);
            return super.lets(x) - 1;
        }
    }

    private static Door made(int kind) {
        switch (kind) {
            case 0:
                return new Door();
            case 1:
                return new Up();
            case 2:
                return new Down();
            case 3:
                return new Alike();
            case 4:
                return new Boot();
            case 5:
                return new Hatch();
            case 6:
                return new Told();
            default:
                return new Back();
        }
    }

    private void above() {
        s.says("Terms 4", "lets(..) and so on: the body of its own KIND, or of the next KIND above that has one; super: from the"
                + " KIND above the body's on.");
        int[] with = {0, 1, -1, 5, 1073741823, 1073741824, Integer.MAX_VALUE, Integer.MIN_VALUE, -1000000007};
        for (int kind = 0; kind < 8; kind++) {
            for (int act = 0; act < 4; act++) {
                // The body is the last of some, so that its number is neither its KIND nor 0.
                Player x = s.script("times " + (3 * kind + act + 2) + " body(" + kind + ")");
                int n = 3 * kind + act + 1;
                for (int v : with) {
                    same(x, kind, n, act, v);
                }
            }
        }
    }

    private void same(Player x, int kind, int n, int act, int v) {
        Door due = made(kind);
        due.number = n;
        int answer = act == 0 ? due.lets(v) : act == 1 ? due.bars(v) : act == 2 ? due.turns(v) : due.tells(v);
        x.is("act(" + n + ", " + act + ", " + v + ")", answer);
        StringBuilder trace = new StringBuilder();
        long many = x.answer("count(6)");
        for (int i = 0; i < many; i++) {
            trace.append(x.answer("trace(" + i + ")")).append(' ');
        }
        s.isText("the trace of KIND " + kind + ", act " + act, trace.toString(), due.trace.toString());
    }

    private void trace() {
        s.says("Terms 4", "THE TRACE: numbers of the bodies that ran in the latest act(), as they began; the first 24 are kept.",
                "trace(0) = BAD  count(6) = 0\n" + ALL + """
                trace(0) = BAD  count(6) = 0                   // no act() yet
                act(5, 3, 1)  count(6) = 10                    // the longest one: all of it is kept
                trace(0) = 61  trace(9) = 1  trace(10) = BAD  trace(23) = BAD  trace(24) = BAD
                trace(-1) = BAD  trace(MIN) = BAD  trace(MAX) = BAD
                act(0, 2, 1) = 1  count(6) = 1                 // the latest
                trace(0) = 11  trace(1) = BAD
                body(3) = 8  keep(0, 1) = 1  taken(0, 0) = 1  trace(0) = 11  count(6) = 1
                act(9, 0, 1) = 0  count(6) = 0  trace(0) = BAD
                act(0, 0, 1) = 1  count(6) = 1
                act(0, 4, 1) = 0  count(6) = 0  trace(0) = BAD
                """);
    }

    private void shelves() {
        Player x = s.says("Terms 4", "SHELVES 0 .. 5 each hold nothing (at first), a BODY, or a ROW: of 0 bytes, 1 shorts, 2 ints,"
                + " 3 longs, 4 booleans, of 0 .. 60 elements, 0 at first (false); what is put in keeps its lowest bits (a boolean:"
                + " whether it is not 0; 1 or 0).", """
                taken(0, 0) = -11  taken(5, 0) = -11  put(0, 0, 1) = -11  put(5, 0, 1) = -11   // nothing at first
                taken(-1, 0) = BAD  taken(6, 0) = BAD  row(-1, 0, 1) = BAD  row(6, 0, 1) = BAD
                body(2) = 0  keep(5, 0) = 1  taken(5, 0) = 2  keep(0, 0) = 1  taken(0, 2) = 2
                row(5, 0, 1) = 1  taken(5, 0) = -12  keep(5, 0) = 1  put(5, 0, 1) = -12
                keep(5, -1) = 1  taken(5, 0) = -11
                row(0, -1, 1) = BAD  row(0, 5, 1) = BAD  row(0, 0, 61) = BAD  row(0, 0, -1) = -14  taken(0, 0) = 2
                """);
        for (int sort = 0; sort < 5; sort++) {
            x = s.script("row(1, " + sort + ", 0) = 1  put(1, 0, 1) = -13  element(1, 0) = LEAST  row(1, " + sort + ", 60) = 1");
            for (int i = 0; i < 60; i++) {
                x.is("element(1, " + i + ")", 0);
            }
            x.play("element(1, 60) = LEAST  put(1, 60, 1) = -13  put(1, 0, 1) = 1  put(1, 59, 1) = 1");
            x.play("element(1, 0) = 1  element(1, 1) = 0  element(1, 58) = 0  element(1, 59) = 1");
        }
        long[] put = {0, 1, -1, 2, 127, 128, 255, 256, 257, -128, -129, 32767, 32768, 65535, 65536, -32768, -32769, 1L << 31,
            (1L << 31) - 1, 1L << 32, (1L << 32) + 1, -(1L << 31) - 1, Long.MAX_VALUE, Long.MIN_VALUE, 1L << 63 >>> 1};
        x = s.script("row(0, 0, 25) = 1  row(1, 1, 25) = 1  row(2, 2, 25) = 1  row(3, 3, 25) = 1  row(4, 4, 25) = 1");
        for (int i = 0; i < put.length; i++) {
            long v = put[i];
            long[] due = {(byte) v, (short) v, (int) v, v, v == 0 ? 0 : 1};
            for (int sort = 0; sort < 5; sort++) {
                x.is("put(" + sort + ", " + i + ", " + v + ")", 1);
                x.is("element(" + sort + ", " + i + ")", due[sort]);
            }
        }
    }

    private void refusals() {
        s.says("Terms 4", "The host's REFUSALS: -11 nothing is there where something is wanted; -12 it is of another kind; -13 a place"
                + " that is not there; -14 a size below 0.", """
                body(0) = 0  keep(1, 0) = 1  row(2, 1, 3) = 1  row(3, 0, 3) = 1
                put(0, 0, 1) = -11  judge(0) = -11  seen(0) = -11  shift(0, 0, 3, 0, 1) = -11  taken(0, 0) = -11
                put(1, 0, 1) = -12  judge(1) = -12  seen(1) = -12  people(1, 0, 1) = -12  shift(1, 0, 3, 0, 1) = -12
                taken(1, 1) = -12  taken(3, 0) = -12
                judge(2) = -12  seen(2) = -12  people(2, 0, 1) = -12  shift(2, 0, 3, 0, 1) = -12
                put(3, -1, 1) = -13  put(3, 3, 1) = -13  put(3, MIN, 1) = -13  put(3, MAX, 1) = -13
                shift(3, -1, 3, 0, 1) = -13  shift(3, 0, 3, 3, 1) = -13  shift(3, 0, 3, 0, 4) = -13  shift(3, 0, 3, 0, -1) = -13
                row(0, 0, -1) = -14  row(0, 0, MIN) = -14
                put(0, 0, 1) = -11                             // nothing has come there by that
                """);
    }

    private void fromRow() {
        s.says("Terms 4", "PEOPLE FROM A ROW of bytes, from place i on: by twos SIZE, ROOM: n of them; it ends where the row is"
                + " missing, ends (within a two, too), one is not as it may be, or PEOPLE are FULL: those ahead came.", """
                rooms 2
                people(0, 0, 1) = 0                            // the row is missing
                bytes 0 : 10 0 20 1 30 0 40
                people(0, 7, 1) = 0  people(0, 8, 1) = 0  people(0, MAX, 7) = 0   // it ends before
                people(0, 6, 1) = 0                            // within a two
                people(0, 5, 1) = 0                            // SIZE 0
                count(0) = 0
                people(0, 4, 7) = 1  of(0, 0) = 30  of(0, 1) = 0
                people(0, 2, 1) = 1  of(1, 0) = 20  of(1, 1) = 1
                people(0, 0, 7) = 3  of(2, 0) = 10  of(3, 0) = 20  of(4, 0) = 30  count(0) = 5
                people(0, 0, 3) = 2  of(5, 0) = 10  of(6, 0) = 20   // FULL
                people(0, 0, 1) = 0  count(0) = 7
                new
                rooms 2
                bytes 1 : 10 0 0 1 30 0
                people(1, 0, 3) = 1  of(0, 0) = 10             // SIZE 0
                bytes 1 : 11 0 100 1 30 0
                people(1, 0, 3) = 1
                bytes 1 : 99 1 12 2 30 0
                people(1, 0, 3) = 1  of(2, 0) = 99  of(2, 1) = 1   // no such ROOM
                bytes 1 : 1 0 12 -1
                people(1, 0, 2) = 1  of(3, 0) = 1
                bytes 1 : -1 0 12 0
                people(1, 0, 2) = 0
                bytes 1 :
                people(1, 0, 1) = 0                            // of no elements
                bytes 1 : 5
                people(1, 0, 1) = 0
                bytes 1 : 0 5 1
                people(1, 1, 1) = 1  of(4, 0) = 5  of(4, 1) = 1   // a two may begin anywhere
                count(0) = 5
                new
                bytes 0 : 5 0
                people(0, 0, 1) = 0  count(0) = 0              // no ROOMS
                room() = 0  people(0, 0, 1) = 1  of(0, 2) = 0  of(0, 3) = 5
                """);
        // The last two of sixty elements.
        Player x = s.script("room() = 0  row(5, 0, 60) = 1  put(5, 58, 7) = 1  put(5, 56, 6) = 1");
        x.play("people(5, 59, 1) = 0  people(5, 58, 1) = 1  people(5, 56, 7) = 2  of(1, 0) = 6  of(2, 0) = 7  count(0) = 3");
    }
}
