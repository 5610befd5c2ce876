import java.util.regex.Matcher;
import java.util.regex.Pattern;

/** Terms 4, the answers: which one of several, and that what is answered so changes nothing. */
final class AnswerSentences {
    private static final String SOME = """
            rooms 3
            doors 1:0 12:1
            people 30:0 20:1 10:2 25:0
            body(5) = 0  body(1) = 1  keep(0, 0) = 1
            bytes 1 : 0 0 1 1 0 2
            row(2, 1, 3) = 1  put(2, 1, 7) = 1  row(4, 4, 2) = 1  put(4, 1, 1) = 1
            wear(1) = -1  image() = 4
            mend(0, 0, 31) = 30  mend(1, 1, 3) = 0  mend(0, 2, 2) = 0  mend(0, 3, 9) = 5  undo() = 3  undo() = 2
            change(0, 1) = 1  wear(2) = 1
            law a>b|d=1 = 1
            tape 0;a
            act(0, 3, 7) = -16
            """;
    private static final String BARE = "rooms 2\npeople 5:0\n";
    private static final int STATE = -5;

    private final Sentences s;

    private AnswerSentences(Sentences s) {
        this.s = s;
    }

    static void tell(Sentences s) {
        AnswerSentences answers = new AnswerSentences(s);
        answers.thoughts();
        answers.ofSeveral();
        answers.theVoid();
        answers.nothingChanged();
        answers.ownMemory();
    }

    /** All that can be asked of an object, what stands behind its tape, image, undo() and redo(), too. */
    private static String all(Player x) {
        StringBuilder told = new StringBuilder();
        for (String call : """
                count(0) count(1) count(2) count(3) count(4) count(5) count(6) of(0, 30) led(0) led(1) reach(0) reach(2)
                trace(0) trace(1) trace(9) changes(-1) changes(0) changes(1) changes(2) changes(3) tries(5, 9, -1, 0)
                of(0, 20) of(1, 20) of(2, 20) of(3, 20) of(0, 10) of(1, 10) of(2, 10) of(3, 10) of(4, 10)
                taken(0, 0) taken(1, 0) taken(2, 0) taken(3, 0) taken(4, 0) taken(5, 0)
                """.split("(?<=\\))\\s+")) {
            told.append(x.answer(call)).append(' ');
        }
        for (int shelf = 0; shelf < 6; shelf++) {
            for (int i = 0; i < 7; i++) {
                told.append(x.answer("element(" + shelf + ", " + i + ")")).append(' ');
            }
        }
        numbers(x, told);
        told.append(x.answer("law()")).append(' ').append(x.answer("changes(-1)")).append(' ');
        told.append(x.answer("back()")).append(' ').append(x.answer("wear(-1)")).append(' ');
        numbers(x, told);
        for (String call : new String[] {"undo()", "redo()"}) {
            long left = 0;
            while (left != STATE) {
                left = x.answer(call);
                told.append(left).append(' ');
            }
            numbers(x, told);
        }
        return told.toString();
    }

    private static void numbers(Player x, StringBuilder told) {
        long people = x.answer("count(0)");
        long doors = x.answer("count(2)");
        for (int p = 0; p < people; p++) {
            told.append(x.answer("of(" + p + ", 0)")).append(' ').append(x.answer("of(" + p + ", 1)")).append(' ');
            told.append(x.answer("of(" + p + ", 2)")).append(' ').append(x.answer("of(" + p + ", 3)")).append(' ');
        }
        for (int d = 0; d < doors; d++) {
            told.append(x.answer("of(" + d + ", 11)")).append(' ');
        }
        told.append(x.answer("of(0, 30)")).append(" / ");
    }

    /** Each call, on an object of its own, is answered as is due, if that is told, and leaves all as it was. */
    private void leave(String setup, String calls) {
        String due = all(s.script(setup));
        Matcher call = Pattern.compile("\\w+\\([^)]*\\)( = -?\\w+)?").matcher(calls);
        while (call.find()) {
            Player x = s.script(setup);
            x.play(call.group());
            s.isText("all behind " + call.group(), all(x), due);
        }
    }

    private void thoughts() {
        s.says("Terms 3", "TRIES, in thought");
        leave(SOME, """
                tries(5, 99, -1, 0)  tries(5, 99, 0, 0)  tries(5, 99, 3, 0)  tries(5, 99, -1, 1)
                may(0, 1)  may(0, 31)  may(1, 2)  changes(-1)  changes(0)  reach(0)  reach(1)  reach(2)  canBe(0)
                fewest(1, 2, -1)  fewest(1, 0, 0)  first(1, 2)  turn(2, 0)  turn(4, 0)  boots(1, 2, 0)  boots(2, 0, 1)
                month(1, 2)  month(4, 0)  judge(1)  seen(1)  of(0, 3)  count(4)  taken(0, 0)  element(1, 2)
                """);
    }

    private void ofSeveral() {
        s.says("Terms 4", "Answers, of several the one named first: BAD (-1): no such number, or it is not as said; NOT (-2): as"
                + " told; FULL (-3); STATE (-5): as told; -11 to -14.", """
                tries(1, 0, -1, 0) = BAD  tries(1, 1, 0, 0) = BAD  tries(1, 1, -1, 0) = STATE   // no DOORS
                led(2) = BAD  led(-1) = BAD  led(1) = STATE    // none was led
                change(0, 1) = BAD  first(1, 0) = BAD  fewest(1, 0, -1) = BAD
                judge(6) = BAD  judge(-1) = BAD  judge(0) = -11  seen(6) = BAD  seen(0) = -11
                put(6, -1, 1) = BAD  put(0, -1, 1) = -11  put(0, 99, 1) = -11
                people(6, -1, 0) = BAD  people(0, -1, 0) = BAD  people(0, 0, 8) = BAD
                row(6, 0, -1) = BAD  row(0, 5, -1) = BAD  row(0, -1, -1) = BAD  row(0, 0, 61) = BAD  row(0, 0, -1) = -14
                taken(6, 8) = BAD  taken(0, 8) = BAD  taken(0, -1) = BAD  taken(0, 0) = -11
                keep(6, 9) = BAD  keep(0, 0) = BAD
                body(5) = 0  keep(1, 0) = 1  row(2, 1, 3) = 1  row(3, 0, 3) = 1
                put(1, -1, 1) = -12  put(1, 99, 1) = -12  put(3, 99, 1) = -13
                people(1, -1, 1) = -12  people(2, -1, 1) = -12  people(1, 0, 0) = BAD  people(2, 0, 8) = BAD
                shift(6, -1, 1, -1, -1) = BAD  shift(0, -1, 6, -1, -1) = BAD  shift(-1, 0, -1, 0, 0) = BAD
                shift(0, -1, 0, -1, -1) = -11  shift(0, -1, 1, -1, -1) = -11  shift(1, -1, 0, -1, -1) = -11
                shift(2, 9, 0, 9, 9) = -11
                shift(1, -1, 1, -1, -1) = -12  shift(1, 9, 3, 9, 9) = -12  shift(3, 9, 1, 9, 9) = -12
                shift(2, -1, 3, -1, -1) = -12  shift(3, 9, 2, 9, 9) = -12  shift(3, 9, 3, 9, 9) = -13
                taken(1, 8) = BAD  taken(1, 1) = -12  taken(3, 8) = BAD  taken(3, 0) = -12
                new
                rooms 4
                doors 1:0 1:0 1:0 1:0 1:0
                people 5:0 5:0 5:0 5:0 5:0 5:0 5:1
                times 120 feed(49)
                times 50 body(0)
                door(11, 0) = BAD  door(14, 0) = BAD  door(1, 3) = BAD  door(1, 0) = FULL
                person(0, 0) = BAD  person(100, 0) = BAD  person(5, 4) = BAD  person(5, 0) = FULL
                feed(256) = BAD  feed(-1) = BAD  feed(0) = FULL
                body(8) = BAD  body(-1) = BAD  body(7) = FULL
                room() = FULL
                change(5, 1) = BAD  change(0, 0) = BAD  change(0, 7) = BAD  change(0, 1) = NOT  change(0, 6) = NOT
                """);
    }

    private void theVoid() {
        s.says("Terms 4", "VOID is -2000000000.", """
                wear(0) = -2000000000  wear(-2) = VOID  wear(MIN) = VOID  boots(1, 0, 0) = -2000000000
                """);
        s.is("BAD", SmallerOut.BAD, -1);
        s.is("NOT", SmallerOut.NOT, -2);
        s.is("FULL", SmallerOut.FULL, -3);
        s.is("STATE", SmallerOut.STATE, -5);
        s.is("VOID", SmallerOut.VOID, -2000000000);
    }

    private void nothingChanged() {
        s.says("Terms 4", "What is answered so changes nothing.");
        leave(SOME, """
                door(0, 0) = BAD  door(11, 0) = BAD  door(3, 0) = BAD  door(30, 0) = BAD  door(-1, 0) = BAD  door(1, 3) = BAD
                door(1, -1) = BAD  person(0, 0) = BAD  person(100, 0) = BAD  person(5, 3) = BAD  person(5, -1) = BAD
                people(-1, 0, 1) = BAD  people(6, 0, 1) = BAD  people(1, 0, 0) = BAD  people(1, 0, 8) = BAD
                people(0, 0, 1) = -12  people(2, 0, 1) = -12  people(4, 0, 1) = -12
                people(1, -1, 2) = 0  people(1, 6, 2) = 0  people(1, 5, 2) = 0  people(1, 0, 2) = 0  people(3, 0, 2) = 0
                mend(4, 0, 5) = BAD  mend(-1, 0, 5) = BAD  mend(0, 0, 0) = BAD  mend(0, 0, 100) = BAD  mend(0, 1, 10) = BAD
                mend(0, 1, -1) = BAD  mend(2, 2, 0) = BAD  mend(0, 2, 3) = BAD  mend(1, 3, 5) = BAD  mend(0, 3, 21) = BAD
                mend(0, 3, -1) = BAD  mend(0, 4, 1) = BAD  mend(0, -1, 1) = BAD
                wear(4) = VOID  wear(-2) = VOID  of(4, 0) = BAD  of(0, 4) = BAD  of(2, 10) = BAD  of(3, 20) = BAD  of(1, 30) = BAD
                feed(-1) = BAD  feed(256) = BAD
                may(2, 1) = BAD  may(0, 0) = BAD  may(0, 4) = BAD  may(0, -1) = BAD  changes(-2) = BAD  changes(99) = BAD
                change(2, 1) = BAD  change(0, 0) = BAD  change(0, 41) = BAD  change(0, 1) = NOT  change(1, 20) = NOT
                led(2) = BAD  led(-1) = BAD  reach(3) = BAD  reach(-1) = BAD  canBe(4) = BAD  canBe(-1) = BAD
                fewest(0, 0, -1) = BAD  fewest(16, 0, -1) = BAD  fewest(1, 3, -1) = BAD  fewest(1, 0, 4) = BAD
                fewest(1, 0, -2) = BAD  fewest(15, 0, -1) = NOT  fewest(15, 0, 2) = NOT
                first(0, 0) = BAD  first(15, 0) = NOT  first(1, 1) = STATE
                turn(0, 0) = BAD  turn(15, 0) = NOT  boots(0, 0, 0) = VOID  boots(1, 0, 2) = VOID  boots(15, 0, 0) = NOT
                month(0, 0) = BAD  month(15, 0) = NOT
                tries(1, 0, -1, 0) = BAD  tries(1, 100, -1, 0) = BAD  tries(1, 1, 4, 0) = BAD  tries(1, 1, 0, 1) = BAD
                judge(-1) = BAD  judge(6) = BAD  judge(3) = -11  judge(0) = -12  judge(2) = -12
                seen(-1) = BAD  seen(6) = BAD  seen(3) = -11  seen(0) = -12  seen(2) = -12  seen(1) = NOT
                body(-1) = BAD  body(8) = BAD  trace(-1) = BAD  trace(99) = BAD
                keep(-1, 0) = BAD  keep(6, 0) = BAD  keep(0, 2) = BAD  keep(1, -2) = BAD
                row(-1, 0, 1) = BAD  row(6, 0, 1) = BAD  row(0, -1, 1) = BAD  row(1, 5, 1) = BAD  row(1, 0, 61) = BAD
                row(1, 0, -1) = -14  row(0, 0, -1) = -14  row(3, 0, -1) = -14
                put(-1, 0, 1) = BAD  put(6, 0, 1) = BAD  put(3, 0, 1) = -11  put(0, 0, 1) = -12  put(1, -1, 1) = -13
                put(1, 6, 1) = -13  element(6, 0) = LEAST  element(3, 0) = LEAST  element(0, 0) = LEAST  element(1, 6) = LEAST
                shift(-1, 0, 1, 0, 1) = BAD  shift(1, 0, 6, 0, 1) = BAD  shift(1, 0, 3, 0, 1) = -11  shift(3, 0, 1, 0, 1) = -11
                shift(0, 0, 1, 0, 1) = -12  shift(1, 0, 2, 0, 1) = -12  shift(1, 2, 1, 0, 5) = -13  shift(1, 0, 1, 2, 5) = -13
                shift(1, -1, 1, 0, 1) = -13  shift(1, 0, 1, -1, 1) = -13  shift(1, 0, 1, 2, -1) = -13
                taken(-1, 0) = BAD  taken(6, 0) = BAD  taken(0, 8) = BAD  taken(0, -1) = BAD  taken(3, 0) = -11
                taken(1, 0) = -12  taken(0, 1) = -12  count(-1) = BAD  count(7) = BAD
                """);
        leave(BARE, """
                led(1) = STATE  back() = STATE  undo() = STATE  redo() = STATE  tries(1, 1, -1, 0) = STATE  trace(0) = BAD
                door(12, 0) = BAD  may(0, 1) = BAD  change(0, 1) = BAD  judge(0) = -11  seen(0) = -11  keep(0, 0) = BAD
                fewest(1, 1, -1) = NOT  first(1, 1) = NOT  first(1, 0) = STATE  turn(1, 1) = NOT  boots(1, 1, 0) = NOT
                month(1, 1) = NOT  changes(0) = BAD  people(0, 0, 1) = 0
                """);
        leave("""
                rooms 4
                doors 1:0 12:1 23:2 30:0 2:1
                people 9:0 8:0 7:1 6:1 5:2 4:2 3:3
                times 120 feed(49)
                times 50 body(3)
                bytes 0 : 5 0 6 1
                wear(3) = -1  image() = 7
                """, """
                room() = FULL  door(13, 0) = FULL  door(0, 0) = BAD  person(5, 0) = FULL  person(0, 0) = BAD  people(0, 0, 2) = 0
                feed(49) = FULL  feed(256) = BAD  body(0) = FULL  body(8) = BAD  wear(7) = VOID  change(4, 45) = NOT
                """);
        StringBuilder forty = new StringBuilder("rooms 1\npeople 1:0\n");
        for (int v = 2; v <= 41; v++) {
            forty.append("mend(0, 0, ").append(v).append(")  ");
        }
        leave(forty.toString(), "mend(0, 0, 100) = BAD  mend(0, 3, 21) = BAD  mend(1, 0, 5) = BAD  mend(0, 2, 0) = BAD");
    }

    private void ownMemory() {
        s.says("Terms 4", "All memory is the class's own.");
        // Two objects by turns: neither one hears of the other, whose bytes, rows and numbers are others.
        Player one = s.script(SOME);
        Player other = s.script("rooms 4\ndoors 10:2\npeople 9:3\nbytes 1 : 9 9 9\nbody(7) = 0  keep(2, 0) = 1  wear(0) = -1\n"
                + "tape b<a\nimage() = 1  mend(0, 0, 8) = 9  act(0, 0, 1) = 1");
        String due = all(s.script(SOME));
        s.isText("all of the one", all(one), due);
        other.play("of(0, 0) = 8  count(3) = 3  law() = 1  back() = 1  undo() = 0  count(6) = 3  element(1, 2) = 9  taken(2, 6) = 7");
        // A ROW that is shifted to another one is not the other one.
        s.script("""
                bytes 0 : 1 2 3
                row(1, 0, 3) = 1  shift(0, 0, 1, 0, 3) = 3
                put(0, 1, 9) = 1  element(1, 1) = 2  put(1, 2, 8) = 1  element(0, 2) = 3
                row(0, 0, 3) = 1  element(0, 1) = 0  element(1, 1) = 2
                body(4) = 0  keep(2, 0) = 1  keep(3, 0) = 1  keep(2, -1) = 1  taken(3, 1) = 4
                """);
    }
}
