/** The Terms' sentences on BODIES, SHELVES, REFUSALS, WEIGHTS FROM A ROW, the answers' order: a run for each boundary case. */
public final class BoundaryShelvesTest {
    private static final String RICH = States.RICH, NIL = States.NIL;
    /** Bodies 0 to 7, each of the kind of its number. */
    private static final String EACH_KIND = """
        body 0 = 0, body 1 = 1, body 2 = 2, body 3 = 3, body 4 = 4, body 5 = 5, body 6 = 6, body 7 = 7
        """;

    public static void main(String[] args) {
        bodies();
        acts();
        trace();
        shelves();
        rows();
        refusals();
        weightsFromARow();
        theOneNamedFirst();
        calls();
        Run.end();
    }

    private static void run(String sentence, String text) {
        Run.run(sentence, text);
    }

    private static void bodies() {
        run("DOORS' ways are kept by call as BODIES 0 .. 49", """
            49* body 7
            count 5 = 49, body 0 = 49, count 5 = 50, body 0 = FULL, body 7 = FULL, act 49 0 1 = 50, act 50 0 1 = 0, act 48 1 0 = 99
            keep 0 49 = 1, keep 0 50 = BAD, taken 0 0 = 0
            """);
        run("of KINDS: 0 DOOR .. 7 LEFT", RICH + """
            body -1 = BAD, body 8 = BAD, body BIG = BAD, body SMALL = BAD, body 7 = 3, body 0 = 4
            """);
        run("1 SHUT under DOOR; 2 OPEN under DOOR; 3 EMPTY under OPEN; 4 CHOSEN under SHUT; 5 SEEN under EMPTY; 6 CODED; 7 LEFT", EACH_KIND + """
            keep 0 0, taken 0 0 = 0, taken 0 1 = -12, taken 0 2 = -12, taken 0 6 = -12
            keep 0 1, taken 0 0 = 1, taken 0 1 = 1, taken 0 2 = -12, taken 0 4 = -12
            keep 0 2, taken 0 0 = 2, taken 0 2 = 2, taken 0 1 = -12, taken 0 3 = -12
            keep 0 3, taken 0 0 = 3, taken 0 2 = 3, taken 0 3 = 3, taken 0 5 = -12, taken 0 1 = -12
            keep 0 4, taken 0 0 = 4, taken 0 1 = 4, taken 0 4 = 4, taken 0 7 = -12, taken 0 2 = -12
            keep 0 5, taken 0 0 = 5, taken 0 2 = 5, taken 0 3 = 5, taken 0 5 = 5, taken 0 1 = -12
            keep 0 6, taken 0 0 = 6, taken 0 6 = 6, taken 0 1 = -12, taken 0 2 = -12
            keep 0 7, taken 0 0 = 7, taken 0 1 = 7, taken 0 4 = 7, taken 0 7 = 7, taken 0 2 = -12, taken 0 6 = -12
            """);
    }

    private static void acts() {
        run("ACTS with x (an int that wraps)", EACH_KIND + """
            act 1 0 BIG = -2147483645, act 0 0 BIG = 2147483647, act 0 1 1073741824 = -2147483648, act 0 1 BIG = -2
            act 2 1 -1073741826 = -2147483648, act 0 2 BIG = 2147483647, act 7 0 SMALL = -2147483638
            act 3 1 BIG = -6, act 5 2 1073741824 = -1073741809, act 4 2 SMALL = 2147483643
            """);
        run("0 hides, 1 opens, 2 asks, 3 tells", EACH_KIND + """
            act 0 0 7 = 7, act 0 1 7 = 14, act 0 2 7 = 7, act 0 3 7 = 13
            act 1 0 7 = 11, act 1 1 7 = 22, act 1 2 7 = 6, act 1 3 7 = 22
            act 2 0 7 = 9, act 2 1 7 = -18, act 2 2 7 = 5, act 2 3 7 = -21
            act 3 0 7 = 10, act 3 1 7 = -22, act 3 2 7 = 12, act 3 3 7 = -28
            act 4 0 7 = 14, act 4 1 7 = 28, act 4 2 7 = -6, act 4 3 7 = 32
            act 5 0 7 = 12, act 5 1 7 = -26, act 5 2 7 = 6, act 5 3 7 = -33
            act 6 0 7 = 26, act 6 1 7 = 52, act 6 2 7 = 1, act 6 3 7 = 45
            act 7 0 7 = 17, act 7 1 7 = 27, act 7 2 7 = -12, act 7 3 7 = 32
            """);
        run("n its number: not its kind's", """
            3* body 2
            act 0 0 7 = 7, act 1 0 7 = 8, act 2 0 7 = 9, act 2 1 0 = -4, act 1 2 1 = 0
            """);
        run("0, and no TRACE then: no such DOOR, ACT", RICH + """
            act 2 3 5, count 6 = 14, act 3 0 1 = 0, count 6 = 0, trace 0 = BAD
            act 2 3 5, act -1 0 1 = 0, count 6 = 0, act 2 3 5, act 0 4 1 = 0, count 6 = 0, trace 0 = BAD
            act 2 3 5, act 0 -1 1 = 0, count 6 = 0, act 2 3 5, act BIG SMALL 1 = 0, count 6 = 0, trace 0 = BAD, trace 13 = BAD
            """);
    }

    private static void trace() {
        run("THE TRACE: numbers of the bodies that ran in the latest act(), as they began", EACH_KIND + """
            count 6 = 0, trace 0 = BAD
            act 7 3 7, count 6 = 14, trace 0 = 81, trace 1 = 2, trace 2 = 80, trace 3 = 10, trace 4 = 20, trace 5 = 1, trace 6 = 50
            trace 7 = 11, trace 8 = 20, trace 9 = 1, trace 10 = 50, trace 11 = 11, trace 12 = 20, trace 13 = 1, trace 14 = BAD
            act 5 3 7 = -33, count 6 = 8, trace 0 = 60, trace 1 = 2, trace 2 = 41, trace 3 = 30, trace 4 = 10, trace 5 = 1, trace 6 = 40
            trace 7 = 11, trace 8 = BAD, trace 13 = BAD
            act 6 0 7, count 6 = 2, trace 0 = 70, trace 1 = 1, trace 2 = BAD
            act 0 0 7, count 6 = 1, trace 0 = 1, trace 1 = BAD, trace -1 = BAD
            """);
        run("the first 24 are kept", EACH_KIND + """
            act 7 3 7, trace 23 = BAD, trace 24 = BAD, trace BIG = BAD, trace SMALL = BAD, count 6 = 14
            """);
    }

    private static void shelves() {
        run("SHELVES 0 .. 5 each hold nothing (at first)", """
            taken 0 0 = -11, taken 5 7 = -11, put 0 0 1 = -11, put 5 0 1 = -11, element 0 0 = MIN, element 5 0 = MIN
            shift 0 0 5 0 0 = -11, judge 5 1 = -11, which 5 10 = MIN, weights 5 0 1 = 0
            """);
        run("SHELVES 0 .. 5: no others", RICH + """
            keep -1 0 = BAD, keep 6 0 = BAD, keep 6 -1 = BAD, row -1 0 1 = BAD, row 6 0 1 = BAD, put -1 0 1 = BAD, put 6 0 1 = BAD
            element -1 0 = MIN, element 6 0 = MIN, shift -1 0 1 0 1 = BAD, shift 6 0 1 0 1 = BAD, shift 1 0 -1 0 1 = BAD
            shift 1 0 6 0 1 = BAD, taken -1 0 = BAD, taken 6 0 = BAD, judge -1 1 = BAD, judge 6 1 = BAD, weights -1 0 1 = BAD
            weights 6 0 1 = BAD, which -1 10 = MIN, which 6 10 = MIN, keep BIG 0 = BAD, keep SMALL 0 = BAD, element BIG 0 = MIN
            """);
        run("a DOOR (a BODY)", RICH + """
            keep 4 2 = 1, taken 4 0 = 7, keep 4 3 = BAD, keep 4 -2 = BAD, keep 4 BIG = BAD, keep 4 SMALL = BAD, taken 4 0 = 7
            keep 4 0 = 1, taken 4 0 = 0, keep 4 -1 = 1, taken 4 0 = -11, keep 4 -1 = 1
            """);
        run("or a ROW: of 0 bytes, 1 shorts, 2 ints, 3 longs, 4 booleans", RICH + """
            row 4 -1 3 = BAD, row 4 5 3 = BAD, row 4 BIG 3 = BAD, taken 4 0 = -11
            row 4 0 3 = 1, row 4 4 3 = 1, put 4 2 8 = 1, element 4 2 = 1, taken 4 0 = -12, keep 4 1 = 1, element 4 2 = MIN, taken 4 0 = 4
            """);
    }

    private static void rows() {
        run("of 0 .. 60 elements", RICH + """
            row 4 0 61 = BAD, row 4 0 BIG = BAD, row 1 0 61 = BAD, row 4 0 -1 = -14, row 1 0 -1 = -14, row 4 0 SMALL = -14
            row 4 3 60 = 1, put 4 59 9 = 1, element 4 59 = 9, put 4 60 9 = -13, element 4 60 = MIN
            row 4 3 0 = 1, put 4 0 9 = -13, element 4 0 = MIN, taken 4 0 = -12, row 4 3 1 = 1, put 4 0 9 = 1, put 4 1 9 = -13
            """);
        run("0 at first (false)", """
            row 0 0 60, element 0 0 = 0, element 0 59 = 0, put 0 0 5, put 0 59 5, row 0 0 60, element 0 0 = 0, element 0 59 = 0
            put 0 7 5, row 0 4 60, element 0 7 = 0, put 0 7 5, keep 0 -1, row 0 3 60, element 0 7 = 0
            """);
        run("what is put in keeps its lowest bits: bytes", """
            row 0 0 2, put 0 0 127, element 0 0 = 127, put 0 0 128, element 0 0 = -128, put 0 0 255, element 0 0 = -1
            put 0 0 256, element 0 0 = 0, put 0 0 -129, element 0 0 = 127, put 0 0 4294967297, element 0 0 = 1, element 0 1 = 0
            """);
        run("what is put in keeps its lowest bits: shorts", """
            row 0 1 2, put 0 0 32767, element 0 0 = 32767, put 0 0 32768, element 0 0 = -32768, put 0 0 65535, element 0 0 = -1
            put 0 0 65536, element 0 0 = 0, put 0 0 -32769, element 0 0 = 32767, put 0 0 128, element 0 0 = 128
            """);
        run("what is put in keeps its lowest bits: ints", """
            row 0 2 2, put 0 0 2147483647, element 0 0 = 2147483647, put 0 0 2147483648, element 0 0 = -2147483648
            put 0 0 4294967295, element 0 0 = -1, put 0 0 4294967296, element 0 0 = 0, put 0 0 32768, element 0 0 = 32768
            """);
        run("what is put in keeps its lowest bits: longs", """
            row 0 3 2, put 0 0 9223372036854775807, element 0 0 = 9223372036854775807, put 0 0 -9223372036854775807
            element 0 0 = -9223372036854775807, put 0 1 4294967296, element 0 1 = 4294967296, element 0 0 = -9223372036854775807
            """);
        run("(a boolean: whether it is not 0; 1 or 0)", """
            row 0 4 2, put 0 0 1, element 0 0 = 1, put 0 0 0, element 0 0 = 0, put 0 0 2, element 0 0 = 1, put 0 0 256, element 0 0 = 1
            put 0 0 -1, element 0 0 = 1, put 0 0 4294967296, element 0 0 = 1, put 0 0 -9223372036854775808, element 0 0 = 1, element 0 1 = 0
            """);
    }

    private static void refusals() {
        run("-11 nothing is there where something is wanted", RICH + """
            put 4 0 1 = -11, put 4 -1 1 = -11, put 5 99 1 = -11, shift 4 0 1 0 1 = -11, shift 1 0 4 0 1 = -11, shift 4 0 5 0 1 = -11
            shift 4 0 4 0 0 = -11, judge 4 1 = -11, taken 4 0 = -11, taken 5 7 = -11, element 4 0 = MIN
            """);
        run("-12 it is of another kind", RICH + """
            put 0 0 1 = -12, shift 0 0 1 0 1 = -12, shift 1 0 0 0 1 = -12, shift 0 0 0 0 0 = -12, judge 0 1 = -12, judge 2 1 = -12
            judge 3 15 = -12, taken 1 0 = -12, taken 2 0 = -12, taken 3 7 = -12, taken 0 2 = -12, taken 0 7 = -12, taken 0 0 = 4
            shift 1 0 2 0 1 = -12, shift 2 0 3 0 1 = -12, shift 3 0 1 0 0 = -12, weights 0 0 1 = -12, weights 2 0 1 = -12, weights 3 0 1 = -12
            element 0 0 = MIN
            """);
        run("-13 a place that is not there", RICH + """
            put 1 -1 9 = -13, put 1 6 9 = -13, put 1 BIG 9 = -13, put 1 SMALL 9 = -13, put 1 5 9 = 1, put 2 2 9 = -13, put 2 1 9 = 1
            element 1 -1 = MIN, element 1 6 = MIN, element 1 5 = 9
            shift 1 0 1 1 6 = -13, shift 1 6 1 0 1 = -13, shift 1 0 1 6 1 = -13, shift 1 -1 1 0 1 = -13, shift 1 0 1 -1 1 = -13
            shift 1 7 1 0 0 = -13, shift 1 0 1 7 0 = -13, shift 1 -1 1 0 0 = -13, shift 1 1 1 1 BIG = -13, shift 1 BIG 1 0 BIG = -13
            shift 1 0 1 0 -1 = -13, shift 1 0 1 0 SMALL = -13, shift 1 3 1 0 4 = -13, shift 1 3 1 0 3 = 3, shift 1 6 1 6 0 = 0
            """);
        run("-14 a size below 0", RICH + """
            row 0 0 -1 = -14, row 1 4 -60 = -14, row 2 3 SMALL = -14, row 5 0 -1 = -14, taken 5 0 = -11, row 5 0 0 = 1
            """);
    }

    private static void weightsFromARow() {
        run("WEIGHTS FROM A ROW of bytes, from a place on: of DOORS 0 on, n of them (1 .. 5; no CHANGES)", RICH + """
            weights 1 0 0 = BAD, weights 1 0 6 = BAD, weights 1 0 -1 = BAD, weights 1 0 BIG = BAD, weights 1 0 SMALL = BAD
            weights 1 0 1 = 1, of 0 0 = 2, of 1 0 = 5, weights 1 2 2 = 2, of 0 0 = 1, of 1 0 = 2, of 2 0 = 2, of 3 0 = 7
            count 4 = 6, redo = 0, undo = 6
            """);
        run("it ends where the row is missing", """
            mend 0 0 5, weights 0 0 5 = 0, weights 5 -1 1 = 0, weights 3 BIG 1 = 0, of 0 0 = 5, of 1 0 = 1
            row 0 0 3, weights 0 0 3 = 3, of 0 0 = 0, keep 0 -1, mend 0 0 5, weights 0 0 3 = 0, of 0 0 = 5
            """);
        run("ends", """
            bytes 0 3 4
            weights 0 0 3 = 2, of 0 0 = 3, of 1 0 = 4, of 2 0 = 1, weights 0 1 3 = 1, of 0 0 = 4, of 1 0 = 4, weights 0 2 3 = 0, weights 0 3 1 = 0
            weights 0 BIG 5 = 0, weights 0 2147483645 5 = 0, weights 0 SMALL 5 = 0, weights 0 -1 2 = 0, of 0 0 = 4, of 1 0 = 4, of 2 0 = 1
            row 0 0 0, weights 0 0 1 = 0
            bytes 0 1 2 3 4 5
            weights 0 3 2 = 2, weights 0 3 3 = 2, weights 0 4 1 = 1
            """);
        run("one is not so", """
            bytes 0 12 0 13 5
            weights 0 0 3 = 2, of 0 0 = 12, of 1 0 = 0, of 2 0 = 1, weights 0 2 2 = 0, of 0 0 = 12, weights 0 3 1 = 1, of 0 0 = 5
            bytes 0 7 -1 5
            weights 0 0 3 = 1, of 0 0 = 7, of 1 0 = 0, of 2 0 = 1
            """);
        run("or behind the last DOOR: those ahead came", """
            bytes 0 2 3 4 5 6
            weights 0 0 5 = 3, of 2 0 = 4, weights 0 0 4 = 3, weights 0 0 3 = 3, weights 0 0 2 = 2
            doors 2, weights 0 0 5 = 2, of 1 0 = 3, doors 5, weights 0 0 5 = 5, of 4 0 = 6, weights 0 1 5 = 4, of 3 0 = 6, of 4 0 = 6
            # what is behind the last DOOR is not looked at
            bytes 0 2 3 99
            doors 2, weights 0 0 5 = 2
            """);
    }

    private static void theOneNamedFirst() {
        run("of several the one named first: BAD ahead of the others", NIL + """
            likely 4 = MIN, likely 0 2 = MIN, gain 2 = MIN, next 0 = MIN, next 4 = MIN, next 2 2 = MIN, worth 3 0 = MIN, worth 0 4 = MIN
            worth 0 0 2 = MIN, theBest 3 = MIN, sure 0 0 = MIN, sure 1 4 = MIN, sure 1 0 3 = MIN, hardest 0 = MIN, hardest 1 3 = MIN
            partner 6 = MIN, partner 0 2 = MIN, drawn 1 0 0 = BAD, drawn 1 10 2 = BAD, drawn 1 13 0 = BAD, drawn 1 10 0 = STATE
            """);
        run("BAD ahead of STATE, FULL", States.THREE_ACTS + """
            opens 4 = BAD, opens 34 = BAD, opens 40 = BAD, opens 3 = STATE, opens 32 = STATE, opens 22 = 3, opens 23 = 7
            opened 0 = BAD, opened 3 = BAD, opened 4 = BAD, opened -2 = BAD, opened 2 = FULL, opened -1 = FULL
            next 2 = MIN, next -1 = MIN, next 0 = MIN
            """);
        run("BAD ahead of FULL: THE TAPE, BODIES", """
            120* feed 33
            feed 256 = BAD, feed -1 = BAD, feed 255 = FULL, feed 0 = FULL
            50* body 3
            body 8 = BAD, body -1 = BAD, body 0 = FULL
            """);
        run("BAD ahead of -11 to -14", RICH + """
            row 4 5 -1 = BAD, row 6 0 -1 = BAD, row 4 0 61 = BAD, judge 4 0 = BAD, judge 0 16 = BAD, taken 4 8 = BAD, taken 1 -1 = BAD
            weights 0 0 0 = BAD, weights 0 0 6 = BAD, shift 6 0 4 0 1 = BAD, shift 4 0 6 0 1 = BAD, put 6 99 1 = BAD
            """);
        run("-11 ahead of -12 ahead of -13", RICH + """
            shift 0 0 4 0 1 = -11, shift 4 0 0 0 1 = -11, shift 4 99 5 99 -1 = -11, shift 1 99 4 0 1 = -11
            shift 0 99 1 99 -1 = -12, shift 1 99 2 99 -1 = -12, shift 0 -1 0 -1 -1 = -12, put 0 99 1 = -12, put 4 99 1 = -11
            """);
    }

    private static void calls() {
        run("An object is used for at most 512 calls after it has been made", "choose 1\nopened 0\nanew = 1\nchoose 0 = 1\n".repeat(127) + """
            choose 2 = 0, opened 0 = 1, of 0 10 = 0, likely 1 1 = 2
            """);
        run("at most 512 calls: bodies, changes and bytes", "body 3\n".repeat(50) + "mend 0 0 2\nmend 0 0 1\n".repeat(100) + """
            40* undo
            undo = STATE
            40* redo
            redo = STATE
            119* feed 33
            feed 49 = 120, feed 49 = FULL, body 0 = FULL, law 0 = -106
            """);
    }
}
