/** Terms 1 to 3, sentence by sentence: rooms, doors, people, the law; what can come; evenings. */
final class TermSentences {
    private final Sentences s;

    private TermSentences(Sentences s) {
        this.s = s;
    }

    static void tell(Sentences s) {
        TermSentences terms = new TermSentences(s);
        terms.use();
        terms.rooms();
        terms.people();
        terms.text();
        terms.lines();
        terms.grammar();
        terms.names();
        terms.open();
        terms.ints();
        terms.whichLine();
        terms.faults();
        terms.kinds();
        terms.changesNow();
        terms.reach();
        terms.longest();
        terms.goals();
        terms.firsts();
        terms.turns();
        terms.boots();
        terms.months();
        terms.triesDraws();
        terms.triesAnswers();
        terms.judged();
        terms.seen();
        terms.led();
        terms.numbers();
        terms.image();
    }

    private void use() {
        Player x = s.says("What it is", "An object is used for at most 512 calls after it has been made; what later calls answer"
                + " is free.", """
                rooms 2
                doors 1:0 10:0
                people 30:0 20:1
                """);
        // The two change to and fro to the last call but three.
        int changed = 0;
        while (x.calls() < 509) {
            x.is("change(" + changed % 2 + ", 1)", changed + 1);
            changed++;
        }
        x.is("led(0)", changed);
        x.is("reach(0)", 2);
        x.is("change(" + changed % 2 + ", 1)", changed + 1);
        s.is("calls", x.calls(), 512);
    }

    // ---- Terms 1

    private void rooms() {
        s.says("Terms 1", "ROOMS 0 .. 3, as they come.", """
                of(0, 20) = BAD  person(9, 0) = BAD            // none has come
                room() = 0  of(0, 20) = 0  of(1, 20) = BAD  person(9, 1) = BAD  door(1, 0) = BAD
                room() = 1  room() = 2  room() = 3  room() = FULL  count(1) = 4
                of(3, 20) = 0  of(4, 20) = BAD  of(-1, 20) = BAD
                door(30, 0) = 0  door(3, 0) = 1  door(34, 0) = BAD  door(43, 0) = BAD
                person(9, -1) = BAD  person(9, 4) = BAD  person(9, 3) = 0
                canBe(0) = 8
                fewest(1, 3, -1) = 0  fewest(1, 4, -1) = BAD  fewest(1, -1, -1) = BAD
                """);
        s.says("Terms 1", "DOORS 0 .. 4, as they come: from a ROOM to another one, of a KIND: 0 UP, 1 DOWN, 2 ALIKE.", """
                rooms 4
                of(0, 10) = BAD  of(0, 11) = BAD               // none has come
                door(0, 0) = BAD  door(33, 0) = BAD            // not another one
                door(4, 0) = BAD  door(40, 0) = BAD            // no ROOM
                door(1, -1) = BAD  door(1, 3) = BAD            // no KIND
                door(1, 0) = 0  door(10, 1) = 1  door(23, 2) = 2  door(30, 0) = 3  door(3, 1) = 4
                door(12, 0) = FULL  count(2) = 5
                of(0, 10) = 1  of(1, 10) = 10  of(2, 10) = 23  of(3, 10) = 30  of(4, 10) = 3
                of(0, 11) = 0  of(1, 11) = 1  of(2, 11) = 2  of(3, 11) = 0  of(4, 11) = 1
                of(5, 10) = BAD  of(-1, 10) = BAD  of(5, 11) = BAD  of(-1, 11) = BAD
                mend(4, 2, 2) = 1  mend(5, 2, 0) = BAD  mend(-1, 2, 0) = BAD
                mend(0, 2, 3) = BAD  mend(0, 2, -1) = BAD
                people 5:0 5:3
                may(4, 1) = 1  may(5, 1) = BAD  may(-1, 1) = BAD  change(5, 1) = BAD  change(-1, 1) = BAD
                """);
    }

    private void people() {
        s.says("Terms 1", "PEOPLE 0 .. 6, as they come: SIZE (1 .. 99), a ROOM, GROWS (0 .. 9 a MONTH; 0 at first).", """
                rooms 2
                of(0, 0) = BAD                                 // none has come
                person(0, 0) = BAD  person(-1, 0) = BAD  person(100, 0) = BAD  person(MIN, 0) = BAD  person(MAX, 0) = BAD
                person(1, 0) = 0  person(99, 1) = 1
                person(50, 0) = 2  person(50, 0) = 3  person(50, 0) = 4  person(50, 0) = 5  person(50, 1) = 6
                person(50, 0) = FULL  count(0) = 7
                of(0, 0) = 1  of(1, 0) = 99  of(6, 0) = 50  of(7, 0) = BAD  of(-1, 0) = BAD
                of(0, 1) = 0  of(6, 1) = 1  of(7, 1) = BAD  of(0, 2) = 0  of(6, 2) = 0  of(7, 2) = BAD
                mend(0, 0, 0) = BAD  mend(0, 0, 100) = BAD  mend(0, 0, 99) = 1  mend(0, 0, 1) = 99
                mend(6, 1, -1) = BAD  mend(6, 1, 10) = BAD  mend(6, 1, 9) = 0  mend(6, 1, 0) = 9
                mend(7, 0, 5) = BAD  mend(7, 1, 5) = BAD  mend(-1, 0, 5) = BAD  mend(-1, 1, 5) = BAD
                wear(6) = -1  wear(7) = VOID
                canBe(6) = 2  canBe(7) = BAD  canBe(-1) = BAD
                """);
        s.says("Terms 1", "BOOTS: worn by one (-1: nobody, at first), who is taller by ADD (0 .. 20; 5 at first).", """
                rooms 1
                people 10:0 20:0
                wear(-1) = -1  of(0, 30) = 5                   // nobody, 5 at first
                wear(0) = -1  of(0, 3) = 15  of(1, 3) = 20
                wear(1) = 0  of(0, 3) = 10  of(1, 3) = 25      // by one
                mend(0, 3, -1) = BAD  mend(0, 3, 21) = BAD  of(0, 30) = 5
                mend(0, 3, 0) = 5  of(1, 3) = 20
                mend(0, 3, 20) = 0  of(1, 3) = 40
                wear(-2) = VOID  wear(2) = VOID  wear(-1) = 1
                of(1, 3) = 20  wear(-1) = -1
                """);
        s.says("Terms 1", "HEIGHT of one: SIZE, and ADD in BOOTS.", """
                rooms 1
                people 99:0 1:0
                of(0, 3) = 99  of(1, 3) = 1
                wear(0) = -1  of(0, 3) = 104  of(0, 0) = 99
                mend(0, 3, 20) = 5  of(0, 3) = 119
                mend(0, 1, 9) = 0  of(0, 3) = 119              // no MONTH has gone by
                wear(1) = 0  of(0, 3) = 99  of(1, 3) = 21
                mend(1, 0, 99) = 1  of(1, 3) = 119
                of(2, 3) = BAD  of(-1, 3) = BAD
                new                                            // in a MONTH 1 would be above 0; now nothing sees that
                rooms 2
                doors 1:0
                people 30:0 25:1
                mend(1, 1, 9) = 0  of(1, 3) = 25  may(0, 1) = 1  changes(-1) = 1  reach(0) = 2  reach(1) = 1  canBe(0) = 3
                fewest(1, 1, -1) = 1  first(1, 1) = 1  turn(1, 1) = 0  boots(1, 1, 0) = -1  tries(1, 1, -1, 0) = 1
                bytes 0 : 0 0 1
                judge(0) = NOT
                bytes 0 : 1 0
                seen(0) = 1  change(0, 1) = 1
                """);
        s.says("Terms 1", "A CHANGE at a DOOR: p, who is in the ROOM from which it goes, and q, who is in the other one,"
                + " change places, if it MAY be.", """
                rooms 3
                doors 1:0
                people 30:0 20:1 10:0 5:2
                may(0, 1) = 1
                may(0, 10) = 0                                 // p and q the other way round
                may(0, 3) = 0  may(0, 31) = 0                  // one is elsewhere
                may(0, 2) = 0                                  // both are in the one ROOM
                may(0, 21) = 0  change(0, 21) = NOT            // there, but it MAY not
                change(0, 1) = 1  of(0, 1) = 1  of(1, 1) = 0  of(2, 1) = 0  of(3, 1) = 2
                of(0, 20) = 6  of(1, 20) = 1  of(2, 20) = 8
                change(0, 1) = NOT
                new                                            // the first and the last of PEOPLE, as p and as q
                rooms 2
                doors 1:2
                people 9:1 9:1 9:1 9:1 9:0 9:0 9:0
                change(0, 60) = 1  of(6, 1) = 1  of(0, 1) = 0  of(0, 20) = 49  of(1, 20) = 78
                change(0, 6) = 2  change(0, 63) = 3  change(0, 36) = 4  change(0, 52) = 5  change(0, 45) = 6  led(1) = 45
                of(0, 20) = 100  of(1, 20) = 27
                """);
    }

    private void text() {
        String full = "1" + "+1".repeat(58);
        Player x = s.says("Terms 1", "THE LAW is a TEXT by THE TAPE (at most 120 bytes): LINES, one or more, parted by ; .", """
                law = -100
                law ; = -100
                law 1 = 1
                law 1;1 = 1
                law 1; = -102
                law 1;;1 = -102
                law ;1 = -100
                """);
        x.law("1;1;1", 1);
        x = s.script("times 120 feed(49)\nfeed(49) = FULL  feed(0) = FULL  count(3) = 120  law() = -104  count(3) = 0");
        x.law("1;".repeat(59) + "1", 1);
        x.law("1;".repeat(59) + "01", 1);
        x = s.script("");
        x.law(full + "+", -218);
        x.law("0" + full + "+0", 1);
        x = s.script("");
        x.law("1;".repeat(60), -220);
        x.law("0" + full + "+", -219);
        x = s.script("rooms 2\ndoors 1:0\npeople 30:0 20:1");
        x.law("00" + full + "+", -220);
        // Each byte but for the 0 that is added stands for something to be worked out.
        x.law("!1" + "+0".repeat(58) + "+1", 1);
        x.is("may(0, 1)", 1);
        x.law("!1" + "+0".repeat(58) + "+0", 1);
        x.is("may(0, 1)", 0);
    }

    private void lines() {
        s.says("Terms 1", "LINE: E, or E ? E (what counts if the first is not 0).", """
                rooms 2
                doors 1:0
                people 30:0 20:1
                law 1?1 = 1
                may(0, 1) = 1
                law 1?0 = 1
                may(0, 1) = 0
                law 0?1 = 1
                may(0, 1) = 0
                law -1?5 = 1
                may(0, 1) = 1                                  // not 0: below it, too
                law 9999?1 = 1
                may(0, 1) = 1
                law 0|1?0|1 = 1
                may(0, 1) = 1
                law 1&0|a>b?1&0|a=30 = 1
                may(0, 1) = 1
                law 0|0?1|1 = 1
                may(0, 1) = 0
                law ? = -100
                law ?1 = -100
                law 1? = -102
                law 1?? = -102
                law 1?1? = -103
                law 1?1?1 = -103
                law (1?1) = -102
                law 1?; = -102
                """);
    }

    private void grammar() {
        s.says("Terms 1", "E = A { | A }.");
        Player x = values();
        value(x, "0|0", 0);
        value(x, "0|0|0|7", 1);
        value(x, "1|0&0", 1);
        faults(x, "^|1", "1|", "1|^|1", "(1|^)", "1|^;1", "1|^?1");
        s.says("Terms 1", "A = B { & B }.");
        x = values();
        value(x, "3&4&5", 1);
        value(x, "3&4&0", 0);
        value(x, "0&0|1", 1);
        value(x, "2&2=2", 1);
        faults(x, "^&1", "1&", "1&^&1", "1&^|1");
        s.says("Terms 1", "B = S, or S < S, S = S, S > S.");
        x = values();
        value(x, "2<3", 1);
        value(x, "3<3", 0);
        value(x, "3=3", 1);
        value(x, "2=3", 0);
        value(x, "4>3", 1);
        value(x, "3>3", 0);
        value(x, "1+1<1+2", 1);
        value(x, "(1<2)=(4>3)", 1);
        faults(x, "1<2^<3", "1<2^=3", "1=1^>3", "1<^=3", "^<1", "1<", "(1=1^=1)", "1<2|1<2^<1", "1<2&1=2^=1");
        s.says("Terms 1", "S = P { + P, - P }.");
        x = values();
        value(x, "7-2-1", 4);
        value(x, "7-2+1", 6);
        value(x, "1+2*3", 7);
        value(x, "1--1", 2);
        value(x, "1-1", 0);
        faults(x, "^+1", "1+", "1-", "1+^+1", "1-^+1", "a+^&1");
        s.says("Terms 1", "P = O { * O, / O, % O }.");
        x = values();
        value(x, "100/7/2", 7);
        value(x, "100/7*2", 28);
        value(x, "7%4*2", 6);
        value(x, "2*7%4", 2);
        value(x, "-2*3", -6);
        faults(x, "^*1", "^/1", "^%1", "1*", "1/", "1%", "1*^*1", "1/^%1");
        s.says("Terms 1", "O = a number (1 to 4 digits), a NAME, ! O, - O, ( E ).");
        x = values();
        value(x, "7", 7);
        value(x, "9999", 9999);
        value(x, "0000", 0);
        value(x, "0099", 99);
        value(x, "a", 30);
        value(x, "!a", 0);
        value(x, "-a", -30);
        value(x, "(a)", 30);
        value(x, "!-!a", 1);
        value(x, "-!0+1", 0);
        value(x, "!1|1", 1);
        faults(x, "", "1000^0", "0000^0", "a+1234^5", "a^a", "a^1", "1^a", "1^(", "a^(1)", "(1)^1", "1^!", "!", "-", "(", "(^)",
                "(1", "1^)", "(1)^)", "!^)", "-^+1", "!^*1", "^c", "^A", "^x", "^e", "^~", "^@", "^`", "^l", "^h", "^:", "^#",
                "^\u0000", "^\u0080", "^\u00e1", "^\u00ff", "1^\u0000", "1^\u00ff");
        s.says("Terms 1", "No blanks.");
        x = values();
        faults(x, "^ 1", "1^ ", "1^ +1", "1+^ 1", "1?^ 1", "1;^ 1", "(^ 1)", "!^ 1", "1^\t", "1^\n", "1^ 1", "^ ");
    }

    private void names() {
        s.says("Terms 1", "NAMES: a HEIGHT of p, b HEIGHT of q, d the DOOR, k its KIND, i the ROOM of p, j the ROOM of q.");
        Player x = values();
        value(x, "a", 30);
        value(x, "b", 20);
        value(x, "d", 1);
        value(x, "k", 1);
        value(x, "i", 2);
        value(x, "j", 1);
        x.play("mend(1, 2, 2) = 1  mend(0, 3, 20) = 5  wear(0) = -1");
        value(x, "k", 2);
        value(x, "a", 50);
        value(x, "b", 20);
        x.play("wear(1) = 0");
        value(x, "a", 30);
        value(x, "b", 40);
        x.play("mend(0, 0, 99) = 30  wear(0) = 1");
        value(x, "a", 119);
        // The ROOMS of DOORS 0 to 4 at their ends: 0 to 3, and the first and the last DOOR.
        s.script("""
                rooms 4
                doors 3:0 30:2 12:0 21:1 3:1
                people 5:0 5:3
                law d=0&i=0&j=3&k=0 = 1
                may(0, 1) = 1  may(1, 10) = 0  may(4, 1) = 0
                law d=1&i=3&j=0&k=2 = 1
                may(0, 1) = 0  may(1, 10) = 1  may(4, 1) = 0
                law d=4&i=0&j=3&k=1 = 1
                may(0, 1) = 0  may(1, 10) = 0  may(4, 1) = 1
                """);
    }

    private void open() {
        s.says("Terms 1", "At most 6 of ( ! - ahead of an O are open at once.");
        Player x = values();
        value(x, "!!!1", 0);
        for (String text : new String[] {"!!!!!!a", "------a", "((((((a))))))", "(!-(!-a))", "!!!!!!a+!!!!!!b",
            "((((((a))))))*((((((b))))))", "((((((a)+1)+1)+1)+1)+1)+1", "!!!!!!a;------b", "!!!!!!a?------b",
            "(((((!a))))+(----a))", "a-b-a-b-a-b-a-b", "((((((a-b-a-b))))))"}) {
            x.law(text, 1);
        }
        faults(x, "!!!!!!^!a", "------^-a", "((((((^(a", "(!-(!-^(", "!(!(!(^!a", "((((((1))))))^)", "a+!!!!!!^!a", "1;((((((^-a",
                "1?((((((^(", "((((((a+^-b", "((((((a))))))+((((((^!", "((((((a)+(^(");
    }

    private void ints() {
        s.says("Terms 1", "Ints that wrap; / and % toward 0, by 0 they give 0; | & < = > ! give 1, 0; all is worked out.");
        Player x = values();
        int most = 9999 * 9999;
        value(x, "9999*9999", most);
        value(x, "9999*9999*9999", most * 9999);
        value(x, "9999*9999*9999*9999", most * most);
        value(x, "8192*8192*31+8192*8191+8191", Integer.MAX_VALUE);
        value(x, "8192*8192*31+8192*8191+8191+1", Integer.MIN_VALUE);
        value(x, "8192*8192*32", Integer.MIN_VALUE);
        value(x, "-(8192*8192*32)", Integer.MIN_VALUE);
        value(x, "8192*8192*32-1", Integer.MAX_VALUE);
        value(x, "8192*8192*64", 0);
        value(x, "8192*8192*32/-1", Integer.MIN_VALUE);
        value(x, "8192*8192*32%-1", 0);
        value(x, "8192*8192*32<8192*8192*32-1", 1);
        x = values();
        value(x, "-7/2", -3);
        value(x, "-7%2", -1);
        value(x, "7/-2", -3);
        value(x, "7%-2", 1);
        value(x, "-7/-2", 3);
        value(x, "1/2", 0);
        value(x, "-1/2", 0);
        value(x, "7/0", 0);
        value(x, "7%0", 0);
        value(x, "0/0", 0);
        value(x, "0%0", 0);
        value(x, "-7/(1-1)", 0);
        x = values();
        value(x, "7|0", 1);
        value(x, "7&9", 1);
        value(x, "7<9", 1);
        value(x, "7=7", 1);
        value(x, "9>7", 1);
        value(x, "!0", 1);
        value(x, "!7", 0);
        value(x, "!-7", 0);
        value(x, "1|1/0", 1);
        value(x, "0&1%0", 0);
    }

    private void whichLine() {
        s.says("Terms 1", "The first LINE without a first E, or whose first E is not 0, counts; none: 0.", """
                rooms 2
                doors 1:0
                people 30:0 20:1
                law 0;1 = 1
                may(0, 1) = 0
                law 1;0 = 1
                may(0, 1) = 1
                law 0?1;0?1 = 1
                may(0, 1) = 0
                law 0?0;1 = 1
                may(0, 1) = 1
                law 0?0;0?0;a>b = 1
                may(0, 1) = 1
                law 2?0;1 = 1
                may(0, 1) = 0
                law 0?1;-2?0;1 = 1
                may(0, 1) = 0
                law 0?1;0;1?1 = 1
                may(0, 1) = 0
                law a<b?0;a=b?0;a>b?7;0 = 1
                may(0, 1) = 1
                """);
    }

    private void faults() {
        s.says("Terms 1", "FAULT: the place (from 0) of the first byte with which no TEXT goes on; the length, if it ends too"
                + " early.");
        Player x = values();
        faults(x, "", "^+", "1^x+", "1+^+x", "(1+2", "a^bx", "1;1;^x;x", "1?1;1?1;1?1^?1", "1<1^<1<1", "!", "1?", "1;");
        x = s.script("");
        // The last of 120 bytes, and behind it.
        faults(x, "0" + "+0".repeat(59) + "^)", "0" + "+0".repeat(59) + ";", "00" + "+0".repeat(58) + "+^+");
        s.says("Terms 1", "Not 0: it MAY be.");
        x = values();
        for (String text : new String[] {"1", "2", "9999", "-1", "-9999", "8192*8192*32"}) {
            x.law(text, 1);
            x.is("may(1, 1)", 1);
        }
        for (String text : new String[] {"0", "0000", "-0", "1-1", "8192*8192*64"}) {
            x.law(text, 1);
            x.is("may(1, 1)", 0);
        }
    }

    private void kinds() {
        s.says("Terms 1", "Without a text: UP: a above b; DOWN: a below b; ALIKE: a no less than b.", """
                rooms 2
                doors 1:0 1:1 1:2
                people 30:0 29:1 30:1 31:1
                may(0, 1) = 1  may(0, 2) = 0  may(0, 3) = 0
                may(1, 1) = 0  may(1, 2) = 0  may(1, 3) = 1
                may(2, 1) = 1  may(2, 2) = 1  may(2, 3) = 0
                wear(1) = -1  mend(0, 3, 1) = 5                // 29 in BOOTS is 30
                may(0, 1) = 0  may(1, 1) = 0  may(2, 1) = 1
                mend(0, 3, 2) = 1
                may(0, 1) = 0  may(1, 1) = 1  may(2, 1) = 0
                law 1+ = -102
                may(0, 1) = 0  may(1, 1) = 1  may(2, 1) = 0    // there is no text still
                law 1 = 1
                may(0, 1) = 1  may(1, 1) = 1  may(2, 1) = 1
                """);
    }

    // ---- what a text says

    /** At DOOR 1, DOWN, 0 (HEIGHT 30) goes from ROOM 2 to ROOM 1, where 1 (HEIGHT 20) is. */
    private Player values() {
        return s.script("rooms 3\ndoors 1:0 21:1\npeople 30:2 20:1");
    }

    /** As a text, by numbers of four digits at most and without brackets; one below 0 as -1 less what is left. */
    private static String number(int v) {
        char sign = v < 0 ? '-' : '+';
        int rest = v < 0 ? -(v + 1) : v;
        String low = "" + rest % 9999;
        if (rest >= 9999) {
            low = rest / 9999 % 9999 + "*9999" + sign + low;
        }
        if (rest >= 9999 * 9999) {
            low = rest / 9999 / 9999 + "*9999*9999" + sign + low;
        }
        return v < 0 ? "-1-" + low : low;
    }

    private void value(Player x, String text, int due) {
        // Each takes some of the object's 512 calls, so that a fresh one stands for a used one.
        Player fresh = x.calls() > 300 ? values() : x;
        fresh.law("(" + text + ")=" + number(due), 1);
        fresh.is("may(1, 1)", 1);
        fresh.law("!((" + text + ")=" + number(due) + ")", 1);
        fresh.is("may(1, 1)", 0);
    }

    /** By a mark of where the fault is: the byte behind ^; none: it ends too early. */
    private void faults(Player x, String... marked) {
        Player fresh = x;
        for (String one : marked) {
            if (fresh.calls() > 380) {
                fresh = s.script("");
            }
            int at = one.indexOf('^');
            String text = one.replace("^", "");
            fresh.law(text, -100 - (at < 0 ? text.length() : at));
        }
    }

    // ---- Terms 2

    private void changesNow() {
        s.says("Terms 2", "CHANGES that MAY be now: by DOORS, then p, then q.", """
                changes(-1) = 0  changes(0) = BAD              // nobody
                rooms 2
                doors 1:0 10:0 1:2
                people 20:1 30:0 40:0 30:1
                changes(-1) = 7                                // 1 and 2 are in ROOM 0, 0 and 3 in ROOM 1
                changes(0) = 10  changes(1) = 20  changes(2) = 23
                changes(3) = 210  changes(4) = 213  changes(5) = 220  changes(6) = 223
                changes(7) = BAD
                """);
        s.says("Terms 2", "(Two who are alike change too, if they MAY.)", """
                rooms 2
                doors 1:2
                people 9:0 9:1
                changes(-1) = 1  changes(0) = 1  reach(0) = 2
                change(0, 1) = 1  of(0, 1) = 1  of(1, 1) = 0
                change(0, 10) = 2  of(0, 1) = 0                // for ever
                reach(1) = 0  reach(2) = NOT
                mend(0, 2, 0) = 2  changes(-1) = 0             // UP they MAY not
                mend(0, 2, 1) = 0  changes(-1) = 0
                """);
        s.says("Terms 2", "An ARRANGEMENT: who is in which ROOM.", """
                rooms 2
                doors 1:2
                people 9:0 9:0 9:1
                reach(0) = 3                                   // alike, but each is another one
                fewest(4, 0, -1) = 1  fewest(3, 0, -1) = 0
                """);
    }

    private void reach() {
        s.says("Terms 2", "REACH: ARRANGEMENTS that can come from how all are (that one, too), by any CHANGES.", """
                reach(0) = 1                                   // nobody, nowhere
                rooms 3
                reach(0) = 1
                people 30:0
                reach(0) = 1                                   // no DOORS
                new
                rooms 3
                doors 1:0 12:0
                people 30:0 20:1 10:2
                reach(0) = 6
                change(0, 1) = 1  reach(0) = 3                 // from how all are now
                change(1, 2) = 2  reach(0) = 2
                change(0, 12) = 3  reach(0) = 1
                new
                rooms 4
                doors 1:2 12:2 23:2 30:2
                people 5:0 5:0 5:1 5:1 5:2 5:2 5:3
                reach(0) = 630                                 // 7! / (2! 2! 2!)
                new                                            // likewise, with any of the ROOMS for the one alone
                rooms 4
                doors 1:2 12:2 23:2 30:2
                people 5:0 5:1 5:1 5:2 5:2 5:3 5:3
                reach(0) = 630
                new
                rooms 4
                doors 1:2 12:2 23:2 30:2
                people 5:0 5:0 5:1 5:2 5:2 5:3 5:3
                reach(0) = 630
                new
                rooms 4
                doors 1:2 12:2 23:2 30:2
                people 5:0 5:0 5:1 5:1 5:2 5:3 5:3
                reach(0) = 630
                """);
        s.says("Terms 2", "RESTS: those of them in which no CHANGE MAY be.", """
                reach(1) = 1                                   // the one there is
                rooms 3
                doors 1:0 2:0
                people 30:0 20:1 20:2
                reach(1) = 2  reach(0) = 3
                change(0, 1) = 1  reach(1) = 1  reach(0) = 1
                new
                rooms 2
                doors 1:0 10:0
                people 30:0 20:1
                reach(1) = 0
                law 0 = 1
                reach(1) = 1
                """);
    }

    private void longest() {
        s.says("Terms 2", "LONGEST: the most CHANGES that can come one behind another till none MAY be; NOT: it can go on for"
                + " ever.", """
                reach(2) = 0                                   // none MAY be now
                rooms 4
                doors 1:0 12:0 23:0
                people 40:0 30:1 20:2 10:3
                reach(2) = 6  reach(0) = 24  reach(1) = 1
                change(1, 12) = 1  reach(2) = 5
                new                                            // each pair in unlike ROOMS once: 7 * 6 / 2 - 3
                rooms 4
                doors 1:0 12:0 23:0
                people 7:0 6:0 5:1 4:1 3:2 2:2 1:3
                reach(2) = 18  reach(0) = 630  reach(1) = 1  fewest(64, 0, -1) = 3
                new                                            // the longest one, not the first one that rests
                rooms 3
                doors 2:0 1:0 12:0
                people 30:0 20:1 10:2
                changes(0) = 2  reach(2) = 3
                change(0, 2) = 1  reach(2) = 0
                new
                rooms 2
                doors 1:0 10:0
                people 30:0 20:1
                reach(2) = NOT                                 // for ever at once
                new
                rooms 4
                doors 1:0 12:2 21:2
                people 30:0 20:1 20:2 9:1
                law a=30 = 1
                changes(-1) = 2  reach(2) = NOT                // for ever, but behind the first CHANGE only
                law i=0&a=30 = 1
                reach(2) = 1
                new                                            // for ever, though it can also rest
                rooms 3
                doors 1:0 10:0 2:0
                people 30:0 20:1 10:2
                law a=30 = 1
                reach(0) = 3  reach(1) = 1  reach(2) = NOT
                """);
        s.says("Terms 2", "CAN BE: ROOMS (bits) in which one is in some of them.", """
                rooms 4
                doors 32:1 21:1
                people 5:3 9:2 1:0
                canBe(0) = 12  canBe(1) = 12  canBe(2) = 1     // where one is now, too
                canBe(3) = BAD
                of(0, 1) = 3                                   // in thought alone
                new
                rooms 4
                doors 1:2 12:2 23:2
                people 5:0 5:1 5:2 5:3
                canBe(0) = 15  canBe(3) = 15
                """);
    }

    private void goals() {
        s.says("Terms 2", "A GOAL: a set of PEOPLE (bits; at least one) who are all in a told ROOM.", """
                fewest(1, 0, -1) = BAD                         // nobody
                rooms 2
                people 1:0 2:0 3:0 4:0 5:0 6:0 7:1
                fewest(0, 0, -1) = BAD                         // not one
                fewest(-1, 0, -1) = BAD  fewest(128, 0, -1) = BAD  fewest(MIN, 0, -1) = BAD  fewest(MAX, 0, -1) = BAD
                fewest(1, 0, -1) = 0  fewest(63, 0, -1) = 0  fewest(64, 1, -1) = 0
                fewest(127, 0, -1) = NOT  fewest(64, 0, -1) = NOT
                fewest(1, 2, -1) = BAD  fewest(1, -1, -1) = BAD
                first(0, 0) = BAD  first(128, 0) = BAD  first(1, 2) = BAD  first(63, 0) = STATE
                turn(0, 0) = BAD  turn(128, 0) = BAD  turn(1, 2) = BAD  turn(63, 0) = 0
                month(0, 0) = BAD  month(128, 0) = BAD  month(1, 2) = BAD  month(63, 0) = 0
                boots(0, 0, 1) = VOID  boots(128, 0, 1) = VOID  boots(1, 2, 1) = VOID  boots(63, 0, 1) = 0
                """);
        s.says("Terms 2", "FEWEST: how few CHANGES till it is so (0: it is); NOT: never.", """
                rooms 3
                doors 1:0 12:0
                people 30:0 20:1 10:2
                fewest(1, 0, -1) = 0  fewest(1, 1, -1) = 1  fewest(1, 2, -1) = 2
                fewest(4, 0, -1) = 2  fewest(3, 0, -1) = NOT  fewest(7, 1, -1) = NOT
                change(0, 1) = 1
                fewest(1, 0, -1) = NOT  fewest(2, 0, -1) = 0
                new                                            // two ways, of one CHANGE and of two
                rooms 3
                doors 1:0 12:0 2:0
                people 30:0 20:1 10:2
                fewest(1, 2, -1) = 1
                """);
        s.says("Terms 2", "GOER: the fewest, if one told is in each of them (p or q).", """
                rooms 2
                doors 1:0
                people 30:0 31:0 5:1 6:1
                fewest(3, 1, -1) = 2
                fewest(3, 1, 0) = 3                            // 0 goes, comes back as q for 1, and goes
                fewest(3, 1, 1) = NOT  fewest(3, 1, 2) = NOT
                fewest(3, 1, 3) = 3                            // as q for 0, as p for 2, as q for 1
                fewest(1, 1, 0) = 1                            // as p
                fewest(1, 1, 2) = 1  fewest(1, 1, 3) = 1       // as q
                fewest(1, 1, 1) = NOT
                fewest(1, 0, 1) = 0  fewest(1, 0, 3) = 0       // it is so, whoever goes
                fewest(1, 1, 4) = BAD  fewest(1, 1, -2) = BAD  fewest(1, 1, MAX) = BAD  fewest(1, 1, MIN) = BAD
                new                                            // by one alone it takes more
                rooms 3
                doors 1:2 12:2 20:2 2:2
                people 9:0 9:1 9:2
                fewest(2, 2, -1) = 1  fewest(2, 2, 0) = 2
                """);
    }

    private void firsts() {
        s.says("Terms 2", "FIRST: of all ways with FEWEST CHANGES the first CHANGE that is least by DOOR, then p, then q.", """
                rooms 2                                        // by DOOR, whatever p is: DOOR 0 serves 1, DOOR 1 serves 0
                doors 1:0 1:1
                people 20:0 40:0 30:1
                first(4, 0) = 12
                new                                            // one and the same two by like DOORS
                rooms 2
                doors 1:1 1:0 1:0
                people 20:0 10:1
                first(1, 1) = 101
                new                                            // by p
                rooms 2
                doors 1:0
                people 30:0 31:0 5:1
                first(4, 0) = 2
                new                                            // by p, whatever q is: 0 for 3, and then 1 for 2
                rooms 2
                doors 1:0
                people 25:0 40:0 30:1 20:1
                first(12, 0) = 3
                new                                            // by q
                rooms 2
                doors 1:0
                people 30:0 5:1 5:1
                first(1, 1) = 1
                new                                            // fewest ahead of least: by DOOR 0 it takes two
                rooms 3
                doors 1:0 12:0 2:0
                people 30:0 20:1 10:2
                first(1, 2) = 202
                new                                            // least are some that lead nowhere
                rooms 3
                doors 1:0 2:0
                people 30:0 31:0 10:1 10:2 10:2
                first(8, 0) = 103  first(24, 0) = 103
                new                                            // of ways of two, that whose first is least: by ROOM 1
                rooms 4
                doors 1:0 2:0 13:0 23:0
                people 30:0 20:1 20:2 10:3
                first(1, 3) = 1
                mend(1, 0, 40) = 20  first(1, 3) = 102
                """);
    }

    private void turns() {
        s.says("Terms 2", "TURN: of all sets of DOORS that are turned (from and to exchanged) that with fewest (of like ones the"
                + " least bits) with which a GOAL can be; NOT.", """
                rooms 1
                people 10:0
                turn(1, 0) = 0                                 // no DOORS: the set of none
                new
                rooms 3
                doors 1:0 12:0
                people 30:2 20:1 10:0
                turn(1, 2) = 0  turn(1, 1) = 2  turn(1, 0) = 3
                turn(7, 0) = NOT
                of(0, 10) = 1  of(1, 10) = 12                  // in thought alone
                new                                            // fewest ahead of least bits: 4 alone, not 3
                rooms 4
                doors 1:0 12:0 2:0
                people 10:0 20:1 30:2
                turn(4, 0) = 4
                new                                            // of like ones the least bits
                rooms 2
                doors 1:0 1:0 1:0 1:0 1:0
                people 10:0 20:1
                turn(1, 1) = 1  turn(1, 0) = 0
                new                                            // the last one alone
                rooms 3
                doors 1:0 1:0 1:0 1:0 20:0
                people 30:0 5:2
                turn(1, 2) = 16  turn(1, 1) = NOT
                new                                            // all five: 0 by 0, 1, 2, and 1 by 3 and 4
                rooms 4
                doors 10:0 21:0 32:0 21:0 32:0
                people 50:0 60:1 1:2 1:3 1:3
                law d<3?a=50&b=1;a=60&b=1 = 1
                turn(3, 3) = 31
                new                                            // ROOMS of p and q are those of the turned DOOR
                rooms 2
                doors 1:0
                people 10:0 20:1
                law i>j&d=0&k=0 = 1
                turn(1, 1) = 1
                law i<j = 1
                turn(1, 1) = 0
                law i=j = 1
                turn(1, 1) = NOT
                """);
    }

    private void boots() {
        s.says("Terms 2", "BOOTS FOR: by whose wearing (nobody first, then by numbers) FEWEST is least (of like ones the first);"
                + " NOT: with nobody's.", """
                rooms 2
                doors 1:0
                people 10:0 12:0 14:1
                boots(3, 0, 0) = -1  boots(3, 0, 1) = 0        // nobody first
                boots(1, 1, 0) = 0  boots(1, 1, 1) = 1
                boots(2, 1, 0) = 1  boots(2, 1, 1) = 1
                boots(4, 0, 0) = 0  boots(4, 0, 1) = 1         // of 0 and 1 the first
                boots(3, 1, 0) = NOT  boots(3, 1, 1) = NOT
                wear(2) = -1
                boots(1, 1, 0) = 0  boots(3, 0, 0) = -1        // whoever wears them now
                wear(2) = 2
                mend(0, 3, 4) = 5  boots(1, 1, 0) = NOT        // 14 is not above 14
                mend(0, 3, 5) = 4  boots(1, 1, 0) = 0
                new                                            // least ahead of first: with nobody's three, with 3's one
                rooms 4
                doors 1:0 12:0 23:0 3:1
                people 30:0 20:1 20:2 29:3
                mend(0, 3, 2) = 5
                boots(1, 3, 0) = 3  boots(1, 3, 1) = 1
                mend(0, 3, 0) = 2
                boots(1, 3, 0) = -1  boots(1, 3, 1) = 3
                new                                            // the last one
                rooms 2
                doors 1:0
                people 1:0 1:0 1:0 1:0 1:0 1:0 1:1
                mend(0, 2, 1) = 0
                boots(64, 0, 0) = 6  boots(64, 0, 1) = 1
                new                                            // nobody is there to be told of
                rooms 1
                boots(1, 0, 0) = VOID
                """);
    }

    private void months() {
        s.says("Terms 2", "MONTH: the first (0 .. 24) in which, all having grown so long (SIZES may be above 99), a GOAL can be"
                + " (ROOMS as now); NOT.", """
                rooms 2
                doors 1:0
                people 10:0 33:1
                month(1, 0) = 0  month(1, 1) = NOT             // nobody grows
                mend(0, 1, 1) = 0  month(1, 1) = 24            // 34 is above 33
                mend(1, 0, 34) = 33  month(1, 1) = NOT         // in MONTH 25 it would be
                mend(0, 1, 9) = 1  month(1, 1) = 3             // 37 is above 34, 28 is not
                mend(1, 1, 8) = 0  month(1, 1) = NOT
                mend(1, 0, 33) = 34  month(1, 1) = 24          // 226 is above 225
                wear(0) = -1  month(1, 1) = 19                 // 15 and 33 at first
                of(0, 0) = 10  of(0, 1) = 0                    // in thought alone
                new                                            // above 99
                rooms 2
                doors 1:0
                people 99:0 99:1
                month(1, 1) = NOT
                mend(0, 1, 1) = 0  month(1, 1) = 1
                law a=315&b=99 = 1
                mend(0, 1, 9) = 1  month(1, 1) = 24
                law a=324 = 1
                month(1, 1) = NOT
                law a=99 = 1
                month(1, 1) = 0                                // now, and in no later one
                law a=108 = 1
                month(1, 1) = 1
                change(0, 1) = NOT
                """);
    }

    // ---- Terms 3

    private void triesDraws() {
        s.says("Terms 3", "TRIES, in thought, by a SEED: n times (1 .. 99):", """
                rooms 2
                doors 1:2
                people 9:0 9:1
                tries(0, 0, -1, 0) = BAD  tries(0, 100, -1, 0) = BAD
                tries(0, -1, -1, 0) = BAD  tries(0, MIN, -1, 0) = BAD  tries(0, MAX, -1, 0) = BAD
                tries(0, 1, -1, 0) = 1  tries(0, 2, -1, 0) = 2  tries(0, 98, -1, 0) = 98  tries(0, 99, -1, 0) = 99
                tries(0, 1, 0, 0) = 1  tries(0, 99, 0, 0) = 1  tries(0, 98, 0, 0) = 0
                of(0, 1) = 0  led(0) = 0                       // in thought
                """);
        s.says("Terms 3", "z = z * 1103515245 + 12345 (an int; SEED at first) ahead of each draw:");
        evenings(new int[] {0, 1, -1, Integer.MIN_VALUE, Integer.MAX_VALUE, 1103515245, -1103515245, 12345, 255, 256, -12345});
        s.says("Terms 3", "the DOOR (z >>> 8) % how many;");
        Player x = s.script("rooms 3\ndoors 1:2 12:2 20:2\npeople 5:0 5:1 5:2");
        // By each of the DOORS the two there change, so that where 0 is afterwards tells which DOOR it was.
        for (int seed = -20; seed <= 20; seed++) {
            int z = seed * 1103515245 + 12345;
            int[] room = {1, 0, 2};
            x.is("tries(" + seed + ", 1, 0, 0)", room[(z >>> 8) % 3]);
        }
        s.says("Terms 3", "p: of those in its ROOM, by numbers, (z >>> 8) % how many; q likewise in the other one");
        x = s.script("rooms 2\ndoors 10:2\npeople 5:0 5:1 5:0 5:1 5:0 5:1 5:1");
        for (int seed = -20; seed <= 20; seed++) {
            int z = seed * 1103515245 + 12345;
            z = z * 1103515245 + 12345;
            int p = new int[] {1, 3, 5, 6}[(z >>> 8) % 4];
            z = z * 1103515245 + 12345;
            int q = new int[] {0, 2, 4}[(z >>> 8) % 3];
            x.is("tries(" + seed + ", 1, " + p + ", 0)", 0);
            x.is("tries(" + seed + ", 1, " + q + ", 0)", 1);
            x.is("tries(" + seed + ", 1, " + (p == 1 ? 3 : 1) + ", 0)", 1);
        }
        s.says("Terms 3", "(if one ROOM is empty, neither is drawn);");
        // DOOR 0 goes to an empty ROOM, DOOR 1 from one, and at DOOR 2 all change: the third try tells how often z went on.
        x = s.script("rooms 4\ndoors 3:2 30:2 1:2\npeople 5:0 5:0 5:1 5:1");
        for (int seed = -15; seed <= 15; seed++) {
            int[] rooms = {0, 0, 1, 1};
            int z = seed;
            int many = 0;
            for (int i = 0; i < 6; i++) {
                z = z * 1103515245 + 12345;
                if ((z >>> 8) % 3 < 2) {
                    continue;
                }
                z = z * 1103515245 + 12345;
                int p = nth(rooms, 0, (z >>> 8) % 2);
                z = z * 1103515245 + 12345;
                int q = nth(rooms, 1, (z >>> 8) % 2);
                rooms[p] = 1;
                rooms[q] = 0;
                many++;
            }
            x.is("tries(" + seed + ", 6, -1, 0)", many);
            for (int p = 0; p < 4; p++) {
                x.is("tries(" + seed + ", 6, " + p + ", 0)", rooms[p]);
            }
        }
    }

    private static int nth(int[] rooms, int room, int k) {
        int left = k;
        for (int p = 0; p < rooms.length; p++) {
            if (rooms[p] == room && left-- == 0) {
                return p;
            }
        }
        throw new IllegalStateException("none such");
    }

    /** An evening worked out here: DOORS UP both ways between ROOMS 0 and 1, and one to ROOM 2, where nobody is. */
    private void evenings(int[] seeds) {
        Player x = s.script("rooms 3\ndoors 1:0 10:0 12:0\npeople 40:0 30:1 20:0 10:1 25:1");
        int[] size = {40, 30, 20, 10, 25};
        for (int seed : seeds) {
            int[] rooms = {0, 1, 0, 1, 1};
            int z = seed;
            int many = 0;
            for (int i = 0; i < 99; i++) {
                z = z * 1103515245 + 12345;
                int door = (z >>> 8) % 3;
                if (door == 2) {
                    continue;
                }
                z = z * 1103515245 + 12345;
                int p = nth(rooms, door, (z >>> 8) % (door == 0 ? 2 : 3));
                z = z * 1103515245 + 12345;
                int q = nth(rooms, 1 - door, (z >>> 8) % (door == 0 ? 3 : 2));
                if (size[p] > size[q]) {
                    rooms[p] = 1 - door;
                    rooms[q] = door;
                    many++;
                }
            }
            x.is("tries(" + seed + ", 99, -1, 0)", many);
            for (int p = 0; p < 5; p++) {
                x.is("tries(" + seed + ", 99, " + p + ", 0)", rooms[p]);
            }
        }
    }

    private void triesAnswers() {
        s.says("Terms 3", "they CHANGE, if they MAY: how many CHANGES;", """
                rooms 2
                doors 1:0
                people 30:0 20:1
                tries(3, 1, -1, 0) = 1  tries(3, 99, -1, 0) = 1   // once, and then they MAY not
                law 0 = 1
                tries(3, 99, -1, 0) = 0
                law 1 = 1
                tries(3, 99, -1, 0) = 99
                new
                rooms 2
                doors 1:0
                tries(3, 99, -1, 0) = 0                        // nobody is there
                """);
        s.says("Terms 3", "the ROOM of one at the end;", """
                rooms 3
                doors 1:0
                people 30:0 20:1 9:2
                tries(3, 1, 0, 0) = 1  tries(3, 1, 1, 0) = 0  tries(3, 99, 0, 0) = 1  tries(3, 99, 2, 0) = 2
                tries(3, 1, 3, 0) = BAD  tries(3, 1, -2, 0) = BAD
                change(0, 1) = 1
                tries(3, 9, 0, 0) = 1  tries(3, 9, 1, 0) = 0
                """);
        s.says("Terms 3", "how many TRIES till no CHANGE MAY be any more (0: now; NOT: some MAY still).", """
                rooms 2
                doors 1:0
                people 30:0 20:1
                tries(3, 1, -1, 1) = 1  tries(3, 99, -1, 1) = 1
                change(0, 1) = 1
                tries(3, 1, -1, 1) = 0  tries(3, 99, -1, 1) = 0
                law 1 = 1
                tries(3, 1, -1, 1) = NOT  tries(3, 99, -1, 1) = NOT
                """);
        // Of four by two only those above change, so that some TRIES bring nothing.
        Player x = s.script("rooms 2\ndoors 1:0\npeople 30:0 10:0 20:1 5:1");
        for (int seed = 0; seed < 20; seed++) {
            int rests = NOT;
            int[] rooms = {0, 0, 1, 1};
            int[] size = {30, 10, 20, 5};
            int z = seed;
            for (int i = 1; i <= 40 && rests == NOT; i++) {
                z = (z * 1103515245 + 12345) * 1103515245 + 12345;
                int p = nth(rooms, 0, (z >>> 8) % 2);
                z = z * 1103515245 + 12345;
                int q = nth(rooms, 1, (z >>> 8) % 2);
                if (size[p] > size[q]) {
                    rooms[p] = 1;
                    rooms[q] = 0;
                }
                // None in ROOM 0 is above one in ROOM 1: the two smallest are there.
                rests = rooms[1] == 0 && rooms[3] == 0 ? i : NOT;
            }
            x.is("tries(" + seed + ", 40, -1, 1)", rests);
            if (rests > 1) {
                x.is("tries(" + seed + ", " + rests + ", -1, 1)", rests);
                x.is("tries(" + seed + ", " + (rests - 1) + ", -1, 1)", NOT);
            }
        }
    }

    private static final int NOT = -2;

    private void judged() {
        s.says("Terms 3", "A ROW of bytes on a SHELF, by threes DOOR, p, q: JUDGED from how all are: the first three that cannot"
                + " be (a three's end that lacks, too); NOT.", """
                rooms 3
                doors 1:0 12:0
                people 30:0 20:1 10:2
                bytes 0 :
                judge(0) = NOT                                 // no three cannot be
                bytes 0 : 0 0 1  1 0 2  0 1 2
                judge(0) = NOT  led(0) = 0  of(0, 1) = 0       // in thought
                bytes 0 : 0 0 1  1 0 2  0 1 2  0 1 2
                judge(0) = 3
                bytes 0 : 0 0 1  1 0 2  1 1 2  0 1 2
                judge(0) = 2                                   // the first
                bytes 0 : 1 0 2  0 0 1
                judge(0) = 0                                   // from how all are, each behind those ahead
                bytes 0 : 0 0 1  1 0 2  0 1
                judge(0) = 2                                   // an end that lacks
                bytes 0 : 0 0 1  1 0 2  0
                judge(0) = 2
                bytes 0 : 0
                judge(0) = 0
                bytes 0 : 0 0
                judge(0) = 0
                bytes 0 : 0 0 1  1
                judge(0) = 1
                bytes 0 : 2 0 1
                judge(0) = 0                                   // no such DOOR
                bytes 0 : -1 0 1
                judge(0) = 0
                bytes 0 : 0 3 1
                judge(0) = 0                                   // nobody such
                bytes 0 : 0 0 3
                judge(0) = 0
                bytes 0 : 0 -1 1
                judge(0) = 0
                bytes 0 : 0 0 -1
                judge(0) = 0
                bytes 0 : 0 0 1  0 0 0
                judge(0) = 1                                   // p is q
                bytes 0 : 127 127 127
                judge(0) = 0
                bytes 0 : -128 -128 -128
                judge(0) = 0
                change(0, 1) = 1
                bytes 0 : 1 0 2  0 1 2
                judge(0) = NOT                                 // from how all are now
                new
                rooms 2
                doors 1:0
                people 10:1 20:0
                bytes 5 : 0 1 0
                judge(5) = NOT
                bytes 5 : 0 1
                judge(5) = 0                                   // what lacks is no 0
                """);
        Player x = s.script("rooms 2\ndoors 1:2\npeople 9:0 9:1\nrow(0, 0, 60) = 1");
        for (int i = 0; i < 20; i++) {
            x.is("put(0, " + (3 * i + 1 + i % 2) + ", 0)", 1);
            x.is("put(0, " + (3 * i + 2 - i % 2) + ", 1)", 1);
        }
        x.play("judge(0) = NOT  put(0, 59, 1) = 1  judge(0) = 19  put(0, 1, 1) = 1  judge(0) = 0");
    }

    private void seen() {
        s.says("Terms 3", "SEEN: a ROW of bytes: a ROOM for each of the PEOPLE: how few CHANGES till all are so; NOT: never, or it"
                + " is no ROOM, or the ROW ends before (what is behind PEOPLE does not count).", """
                row(0, 0, 0) = 1  seen(0) = 0                  // nobody
                rooms 3
                seen(0) = 0
                new
                rooms 3
                doors 1:0 12:0
                people 30:0 20:1 10:2
                bytes 0 : 0 1 2
                seen(0) = 0
                bytes 0 : 1 0 2
                seen(0) = 1
                bytes 0 : 2 1 0
                seen(0) = 3
                bytes 0 : 2 1 0 0 3 -1 127
                seen(0) = 3                                    // behind PEOPLE
                bytes 0 : 2 1
                seen(0) = NOT                                  // ends before
                bytes 0 :
                seen(0) = NOT
                bytes 0 : 3 1 2
                seen(0) = NOT                                  // no ROOM
                bytes 0 : 0 1 3
                seen(0) = NOT
                bytes 0 : -1 1 2
                seen(0) = NOT
                bytes 0 : 0 1 -128
                seen(0) = NOT
                bytes 0 : 4 1 2
                seen(0) = NOT
                bytes 0 : 0 0 0
                seen(0) = NOT                                  // never
                change(0, 1) = 1
                bytes 0 : 0 1 2
                seen(0) = NOT                                  // never again
                of(0, 1) = 1                                   // in thought
                """);
    }

    private void led() {
        s.says("Terms 3", "LED: the latest CHANGE in deed; how many there were.", """
                rooms 3
                doors 1:0 12:0
                people 30:0 20:1 10:2
                led(0) = 0  led(1) = STATE                     // none
                change(0, 1) = 1  led(0) = 1  led(1) = 1
                change(1, 2) = 2  led(0) = 2  led(1) = 102
                change(1, 2) = NOT  change(9, 2) = BAD  led(0) = 2  led(1) = 102
                tries(1, 9, -1, 0)  fewest(4, 0, -1)  led(0) = 2   // none in thought
                change(0, 12) = 3  led(1) = 12
                image() = 3  back() = 3  undo() = STATE  led(0) = 3  led(1) = 12
                """);
    }

    private void numbers() {
        s.says("Terms 3", "CHANGES OF NUMBERS (SIZE, GROWS of PEOPLE, KIND of DOORS, ADD) can be UNDONE, the latest first, and"
                + " DONE AGAIN (as long as no other came behind); 40 at most are kept.", """
                rooms 2
                doors 1:0
                people 30:0 20:1
                undo() = STATE  redo() = STATE  count(4) = 0   // none
                mend(0, 0, 31) = 30  mend(1, 1, 3) = 0  mend(0, 2, 2) = 0  mend(0, 3, 9) = 5
                count(4) = 4  redo() = STATE
                undo() = 3  of(0, 30) = 5  of(0, 11) = 2
                undo() = 2  of(0, 11) = 0  of(1, 2) = 3
                undo() = 1  of(1, 2) = 0  of(0, 0) = 31
                undo() = 0  of(0, 0) = 30
                undo() = STATE  count(4) = 0
                redo() = 3  of(0, 0) = 31  redo() = 2  of(1, 2) = 3
                redo() = 1  of(0, 11) = 2  redo() = 0  of(0, 30) = 9
                redo() = STATE  count(4) = 4
                undo() = 3  undo() = 2
                mend(0, 0, 100) = BAD  mend(0, 0, 31) = 31  wear(1) = -1  change(0, 1) = 1  person(5, 0) = 2
                redo() = 1                                     // no other change of numbers came behind
                mend(0, 0, 50) = 31
                redo() = STATE  undo() = 3  of(0, 0) = 31      // another one came
                """);
        Player x = s.script("rooms 1\npeople 1:0");
        for (int i = 1; i <= 40; i++) {
            x.is("mend(0, 0, " + (i + 1) + ")", i);
            x.is("count(4)", i);
        }
        x.is("mend(0, 0, 41)", 41);
        x.is("count(4)", 40);
        x.is("mend(0, 0, 42)", 41);
        x.is("count(4)", 40);
        x.is("mend(0, 3, 6)", 5);
        for (int i = 39; i >= 0; i--) {
            x.is("undo()", i);
        }
        x.play("undo() = STATE  of(0, 0) = 3  of(0, 30) = 5");
        for (int i = 39; i >= 0; i--) {
            x.is("redo()", i);
        }
        x.play("redo() = STATE  of(0, 0) = 42  of(0, 30) = 6  count(4) = 40");
        forgotten();
    }

    /** Of 47 changes of five numbers by turns 40 are kept: the first round and two of the second are not undone. */
    private void forgotten() {
        Player x = s.script("rooms 2\ndoors 1:0 10:0\npeople 10:0 20:1");
        for (int round = 0; round < 9; round++) {
            x.play("mend(0, 0, " + (11 + round) + ") = " + (10 + round) + "  mend(1, 0, " + (21 + round) + ") = " + (20 + round));
            x.play("mend(1, 1, " + (1 + round) + ") = " + round);
            x.play("mend(1, 2, " + (1 + round) % 3 + ") = " + round % 3);
            x.play("mend(0, 3, " + (6 + round) + ") = " + (5 + round));
        }
        x.play("mend(0, 0, 20) = 19  mend(1, 0, 30) = 29  count(4) = 40");
        for (int left = 39; left >= 0; left--) {
            x.is("undo()", left);
        }
        x.play("undo() = STATE  of(0, 0) = 12  of(1, 0) = 22  of(1, 2) = 1  of(1, 11) = 1  of(0, 30) = 6  of(0, 2) = 0");
        for (int left = 39; left >= 0; left--) {
            x.is("redo()", left);
        }
        x.play("redo() = STATE  of(0, 0) = 20  of(1, 0) = 30  of(1, 2) = 9  of(1, 11) = 0  of(0, 30) = 14  of(0, 11) = 0");
    }

    private void image() {
        s.says("Terms 3", "AN IMAGE keeps ROOMS of PEOPLE, who wears BOOTS.", """
                rooms 2
                doors 1:0 10:1
                people 30:0 20:1
                back() = STATE                                 // none
                wear(1) = -1
                image() = 2
                wear(0) = 1  change(0, 1) = 1  mend(0, 0, 40) = 30  mend(0, 3, 7) = 5  mend(1, 1, 2) = 0
                mend(0, 2, 2) = 0
                law 0 = 1
                tape 12
                back() = 2
                of(0, 1) = 0  of(1, 1) = 1  wear(1) = 1
                of(0, 0) = 40  of(0, 30) = 7  of(1, 2) = 2  of(0, 11) = 2   // no numbers
                count(3) = 2  count(4) = 4  led(0) = 1
                may(1, 10) = 0                                 // nor the law
                wear(-1) = 1  image() = 2  wear(0) = -1  back() = 2  wear(-1) = -1
                """);
    }
}
