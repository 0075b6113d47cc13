/** The promises' own sentences, 1 to 41: each boundary case that one names has a run of its own. */
public final class BoundaryPromisesTest {
    private static final String RICH = States.RICH, NIL = States.NIL, THREE_ACTS = States.THREE_ACTS, FOUR_HOSTS = States.FOUR_HOSTS;

    public static void main(String[] args) {
        doorsAndHosts();
        tapeAndLaws();
        anEvening();
        asked();
        fromTheBeginning();
        hostsTogether();
        drawsAndPartner();
        keptAndUndone();
        bodies();
        shelves();
        count();
        Run.end();
    }

    private static void run(String sentence, String text) {
        Run.run(sentence, text);
    }

    private static void doorsAndHosts() {
        run("1: Three doors.", """
            count 0 = 3, count 1 = 0, count 2 = 0, count 3 = 0, count 4 = 0, count 5 = 0, count 6 = 0, of 0 20 = 0, of 0 21 = 1, of 0 22 = 0
            led 0 = 0, led 1 = 0, led 2 = 0, back = STATE, undo = STATE, redo = STATE, of 0 10 = VOID, of 0 11 = VOID, trace 0 = BAD
            keep 0 0 = BAD, law 0 = -100
            """);
        run("2: n DOORS (WEIGHTS 1 each, CHOSEN 0, no ACTS, CODE 0 each", RICH + """
            doors 4 = 4, of 0 0 = 1, of 1 0 = 1, of 2 0 = 1, of 3 0 = 1, of 0 22 = 0, count 2 = 0, count 1 = 0, of 0 10 = VOID
            of 0 2 = 0, of 1 2 = 0, of 2 2 = 0, of 3 2 = 0
            """);
        run("2: CHANGES are none)", RICH + """
            count 4 = 6, doors 4 = 4, count 4 = 0, undo = STATE, redo = STATE, mend 0 0 2 = 1, count 4 = 1, undo = 0, redo = 0
            """);
        run("2: n DOORS: nothing else is changed", RICH + """
            doors 3 = 4, of 0 20 = 1, of 0 21 = 2, led 0 = 1, led 1 = 1, led 2 = 1, count 3 = 2, count 5 = 3, count 6 = 14, element 1 0 = 2
            opens 21 = 3, opens 10 = 8, feed 49, law 3 = 1
            """);
        run("2: how many there were", """
            doors 2 = 3, doors 5 = 2, doors 5 = 5, doors 4 = 5, doors 3 = 4
            """);
        run("2: BAD", RICH + """
            doors 1 = BAD, doors 6 = BAD, doors 0 = BAD, doors -1 = BAD, doors BIG = BAD, doors SMALL = BAD, count 0 = 4
            """);
        run("3: n (1 .. 5) of them: how many came", RICH + """
            weights 1 0 0 = BAD, weights 1 0 6 = BAD, weights 6 0 1 = BAD, weights -1 0 1 = BAD, weights 1 0 5 = 4, of 3 0 = 2
            """);
        run("3: -12 (no ROW of bytes; a SHELF that holds nothing is missing)", RICH + """
            weights 0 0 1 = -12, weights 2 0 1 = -12, weights 3 0 1 = -12, weights 3 -1 1 = -12, weights 4 0 1 = 0, weights 5 0 5 = 0
            row 4 1 0, weights 4 0 1 = -12, row 4 2 0, weights 4 0 1 = -12, row 4 0 0, weights 4 0 1 = 0
            """);
        run("4: WEIGHT (what 0) of a DOOR, HOST (1; 0 .. 3), A (2; 1 .. 3; number 0 for both)", RICH + """
            mend 4 0 1 = BAD, mend -1 0 1 = BAD, mend 0 0 13 = BAD, mend 0 0 -1 = BAD, mend BIG 0 1 = BAD, mend SMALL 0 1 = BAD
            mend 0 1 4 = BAD, mend 0 1 -1 = BAD, mend 1 1 0 = BAD, mend -1 1 0 = BAD, mend 3 1 2 = BAD
            mend 0 2 0 = BAD, mend 0 2 4 = BAD, mend 1 2 1 = BAD, mend -1 2 1 = BAD, mend 3 2 3 = BAD
            mend 0 3 1 = BAD, mend 0 -1 1 = BAD, mend 0 BIG 1 = BAD, mend 0 SMALL 1 = BAD, mend 0 0 BIG = BAD, mend 0 0 SMALL = BAD
            mend 3 0 12 = 7, mend 3 0 0 = 12, mend 0 1 3 = 1, mend 0 1 0 = 3, mend 0 2 3 = 2, mend 0 2 1 = 3
            """);
        run("4: what it was", RICH + """
            mend 2 0 9 = 2, mend 2 0 9 = 9, mend 0 1 2 = 1, mend 0 1 2 = 2, mend 0 2 1 = 2, mend 0 2 1 = 1
            """);
        run("5: Of a DOOR: 0 WEIGHT, 1 whether it is open (1, 0), 2 its number in the CODE", RICH + """
            of 0 0 = 3, of 3 0 = 7, of 0 1 = 1, of 1 1 = 1, of 2 1 = 0, of 3 1 = 0, of 1 2 = 2, of 3 2 = 4, of 0 2 = 0
            of 4 0 = VOID, of -1 0 = VOID, of 4 1 = VOID, of -1 1 = VOID, of 4 2 = VOID, of -1 2 = VOID, of BIG 0 = VOID, of SMALL 1 = VOID
            """);
        run("5: of an ACT told: 10 the DOOR opened (-1: NONE), 11 the one CHOSEN then", THREE_ACTS + """
            of 0 10 = 0, of 0 11 = 2, of 1 10 = 1, of 1 11 = 3, of 2 10 = -1, of 2 11 = 3, of 3 10 = VOID, of 3 11 = VOID
            of -1 10 = VOID, of -1 11 = VOID, anew, of 0 10 = VOID, of 0 11 = VOID
            """);
        run("5: number 0: 20 HOST, 21 A, 22 CHOSEN, 23 DOORS", RICH + """
            of 0 20 = 1, of 0 21 = 2, of 0 22 = 3, of 0 23 = 4, of 1 20 = VOID, of 1 21 = VOID, of 1 22 = VOID, of 1 23 = VOID, of -1 20 = VOID
            """);
        run("5: VOID: BAD", RICH + """
            of 0 3 = VOID, of 0 9 = VOID, of 0 12 = VOID, of 0 19 = VOID, of 0 24 = VOID, of 0 -1 = VOID, of 0 BIG = VOID, of 0 SMALL = VOID
            """);
    }

    private static void tapeAndLaws() {
        run("6: A byte (0 .. 255) comes to THE TAPE: how many it has", RICH + """
            feed -1 = BAD, feed 256 = BAD, feed BIG = BAD, feed SMALL = BAD, count 3 = 2, feed 0 = 3, feed 255 = 4
            """);
        run("6: FULL (120)", "feed 100\n".repeat(119) + """
            feed 100 = 120, feed 100 = FULL, feed 256 = BAD, count 3 = 120, law 0 = -101, feed 100 = 1
            """);
        run("7: THE TAPE becomes the LAW of a HOST (0 .. 3): 1", RICH + """
            feed 49 = 3, law 3 = 1, mend 0 1 3, opens 20 = 3, opens 21 = 3, feed 56, law 3 = 1, opens 20 = 8
            """);
        run("7: -100 less its FAULT", RICH + """
            law 1 = -102, opens 20 = 3, law 1 = -100, opens 20 = 3, opens 23 = 7
            text 1)
            law 0 = -101, mend 0 1 0, opens 22 = 2
            """);
        run("7: THE TAPE is empty then", RICH + """
            count 3 = 2, law 1 = -102, count 3 = 0, law 1 = -100, count 3 = 0, feed 49 = 1, law 1 = 1, count 3 = 0, law 1 = -100
            """);
        run("7: BAD (it stays)", RICH + """
            law 4 = BAD, law -1 = BAD, law BIG = BAD, law SMALL = BAD, count 3 = 2, feed 49 = 3, law 0 = 1
            """);
        run("8: In how many of twelve the HOST opens a DOOR, the cow being behind another one or it", RICH + """
            opens 20 = 3, opens 21 = 3, opens 22 = 3, opens 23 = 7, anew, opens 3 = 9, opens 13 = 8, opens 11 = 3
            """);
        run("8: (dx: 10 times the one and the other), as all is. BAD", RICH + """
            opens 24 = BAD, opens 29 = BAD, opens 40 = BAD, opens 4 = BAD, opens -1 = BAD, opens -10 = BAD, opens -20 = BAD, opens 120 = BAD
            opens BIG = BAD, opens SMALL = BAD
            """);
        run("8: STATE: it is open or CHOSEN", RICH + """
            opens 0 = STATE, opens 2 = STATE, opens 12 = STATE, opens 30 = STATE, opens 33 = STATE, choose 2, opens 30 = 3, opens 20 = STATE
            """);
    }

    private static void anEvening() {
        run("9: CHOSEN becomes a DOOR: what it was. BAD", RICH + """
            choose 4 = BAD, choose -1 = BAD, choose BIG = BAD, choose SMALL = BAD, choose 2 = 3, choose 2 = 2, choose 3 = 2
            """);
        run("9: STATE: it is open", RICH + """
            choose 0 = STATE, choose 1 = STATE, anew, choose 0 = 3, choose 1 = 0
            """);
        run("10: AN ACT: he opened a DOOR (-1: NONE): how many ACTS there are", RICH + """
            opened 2 = 3, count 1 = 3, of 2 10 = 2, anew, opened -1 = 1, count 1 = 0, opened 0 = 2, opened -1 = 3
            """);
        run("10: BAD (open, CHOSEN, too)", RICH + """
            opened 0 = BAD, opened 1 = BAD, opened 3 = BAD, opened 4 = BAD, opened -2 = BAD, opened BIG = BAD, opened SMALL = BAD
            """);
        run("10: FULL: 3", THREE_ACTS + """
            opened -1 = FULL, opened 2 = FULL, count 2 = 3, count 1 = 2
            """);
        run("11: The EVENING begins anew (no ACTS; CHOSEN stays): how many ACTS there were", RICH + """
            anew = 2, anew = 0, count 1 = 0, of 0 22 = 3, of 0 1 = 0, of 1 1 = 0, of 0 10 = VOID, led 0 = 1, led 2 = 1, count 4 = 6, back = 1
            """);
    }

    private static void asked() {
        run("12: HOW LIKELY: part 0 above, 1 below the line", RICH + """
            likely 0 0 = 9, likely 0 1 = 98, likely 2 2 = MIN, likely 2 -1 = MIN, likely 2 BIG = MIN, likely 2 SMALL = MIN
            likely 4 = MIN, likely -1 = MIN, likely BIG = MIN, likely SMALL = MIN
            """);
        run("12: Long.MIN_VALUE: BAD; NOT", NIL + """
            likely 2 = NOT, likely 0 = NOT, likely 4 = MIN, likely 2 2 = MIN
            """);
        run("13: BEST. NOT.", """
            best = 0, opened 2, best = 1, mend 1 0 0, best = NOT, anew, best = 0
            """);
        run("14: GAIN: part likewise. Long.MIN_VALUE: BAD; NOT", """
            gain 2 = MIN, gain -1 = MIN, gain BIG = MIN, gain SMALL = MIN, gain = 0/1, opened 2, gain = 1/1, mend 1 0 0, gain = NOT, gain 2 = MIN
            """);
        run("15: NEXT (door -1: NONE): part likewise", RICH + """
            next 2 2 = MIN, next 2 -1 = MIN, next -1 2 = MIN, next -1 BIG = MIN, next 2, next -1
            """);
        run("15: BAD (open, CHOSEN", RICH + """
            next 0 = MIN, next 1 = MIN, next 3 = MIN, next 4 = MIN, next -2 = MIN, next BIG = MIN, next SMALL = MIN
            """);
        run("15: three ACTS are told, too)", THREE_ACTS + """
            next 2 = MIN, next -1 = MIN, anew, next 2
            """);
        run("15: NOT", NIL + """
            next 2 = NOT, next -1 = NOT, next 3 = MIN, next 2 2 = MIN, opened -1, next -1 = MIN
            """);
    }

    private static void fromTheBeginning() {
        run("16: Worth of a way (0 STAYING, 1 CHANGING at the end, 2 CHANGING each time) of a CHOSEN DOOR", RICH + """
            worth -1 0 = MIN, worth 3 0 = MIN, worth BIG 0 = MIN, worth SMALL 0 = MIN, worth 0 -1 = MIN, worth 0 4 = MIN, worth 1 4 = MIN
            worth 2 4 = MIN, worth 0 BIG = MIN, worth 0 0 2 = MIN, worth 1 0 -1 = MIN, worth 2 0 BIG = MIN
            # an open one, too: from the beginning none is
            worth 0 0 = 3/17, worth 0 3 = 7/17, worth 1 0, worth 2 1
            """);
        run("16: NOT: all WEIGHTS are 0", NIL + """
            worth 0 0 = NOT, worth 1 3 = NOT, worth 2 2 = NOT, worth 3 0 = MIN, worth 0 4 = MIN, worth 0 0 2 = MIN
            """);
        run("17: THE BEST: part likewise (0, 1); the DOOR CHOSEN first (2)", RICH + """
            theBest 3 = MIN, theBest -1 = MIN, theBest BIG = MIN, theBest SMALL = MIN, theBest 0, theBest 1, theBest 2
            """);
        run("17: NOT likewise", NIL + """
            theBest 0 = NOT, theBest 1 = NOT, theBest 2 = NOT, theBest 3 = MIN, mend 3 0 1, theBest = 1/1, theBest 2
            """);
    }

    private static void hostsTogether() {
        run("18: SURE over HOSTS (bits, at least one) of a CHOSEN DOOR: part 0, 1; which (2)", RICH + """
            sure 0 0 = MIN, sure 16 0 = MIN, sure -1 0 = MIN, sure 15 4 = MIN, sure 15 -1 = MIN, sure 15 BIG = MIN, sure 15 0 3 = MIN
            sure 15 0 -1 = MIN, sure 15 0 SMALL = MIN, sure 15 0, sure 1 3, sure 8 0 2
            """);
        run("18: NOT likewise", NIL + """
            sure 1 0 = NOT, sure 15 3 = NOT, sure 15 3 2 = NOT, sure 0 0 = MIN, sure 15 4 = MIN, sure 1 0 3 = MIN
            """);
        run("19: HARDEST of HOSTS likewise: that worth (part 0, 1), the HOST (2)", RICH + """
            hardest 0 = MIN, hardest 16 = MIN, hardest -1 = MIN, hardest SMALL = MIN, hardest 15 3 = MIN, hardest 15 -1 = MIN, hardest 8 2 = 3
            """);
        run("19: Long.MIN_VALUE: BAD; NOT", NIL + """
            hardest 1 = NOT, hardest 15 2 = NOT, hardest 0 = MIN, hardest 15 3 = MIN
            """);
        run("20: WHICH HOST (hh: 10 times HOSTS as bits, 1 .. 15, and one of them): part 0, 1", RICH + """
            which 1 0 = MIN, which 1 3 = MIN, which 1 160 = MIN, which 1 -10 = MIN, which 1 -11 = MIN, which 1 BIG = MIN, which 1 SMALL = MIN
            which 1 150 2 = MIN, which 1 150 -1 = MIN, which 1 10, which 1 83, which 1 153
            """);
        run("20: BAD (not of these, more than 4, too)", RICH + """
            which 1 11 = MIN, which 1 20 = MIN, which 1 22 = MIN, which 1 14 = MIN, which 1 154 = MIN, which 1 159 = MIN, which 1 42, which 1 52
            row 1 0 12, which 1 150 = 0/1, row 1 0 15, which 1 150 = MIN, row 1 0 60, which 1 150 = MIN
            """);
        run("20: or no ROW of bytes", RICH + """
            which 0 150 = MIN, which 2 150 = MIN, which 3 150 = MIN, which 4 150 = MIN, row 4 1 0, which 4 150 = MIN, row 4 0 0, which 4 150 = 1/4
            """);
        run("21: JUDGED by HOSTS (bits, at least one)", RICH + """
            judge 1 0 = BAD, judge 1 16 = BAD, judge 1 -1 = BAD, judge 1 BIG = BAD, judge 1 SMALL = BAD, judge 6 15 = BAD, judge -1 15 = BAD
            judge 1 15 = NOT, judge 1 8 = 1, put 1 1 2 = 1, judge 1 15 = 0
            """);
        run("21: BAD, -11, -12 (no ROW of bytes); NOT", RICH + """
            judge 4 15 = -11, judge 4 0 = BAD, judge 0 15 = -12, judge 2 15 = -12, judge 3 15 = -12, row 4 0 0, judge 4 15 = NOT
            """);
        run("22: HOST g from h (gh: 10 g and h; unlike)", RICH + """
            apart 0 12 = BAD, apart 11 12 = BAD, apart 33 12 = BAD, apart 4 12 = BAD, apart 40 12 = BAD, apart 43 12 = BAD, apart -1 12 = BAD
            apart -10 12 = BAD, apart 100 12 = BAD, apart BIG 12 = BAD, apart SMALL 12 = BAD
            """);
        run("22: EVENINGS alike: CHOSEN c, opened o, the cow x (cox: 100 c, 10 o and x; o is neither c)", RICH + """
            apart 1 0 = BAD, apart 1 3 = BAD, apart 1 112 = BAD, apart 1 330 = BAD, apart 1 410 = BAD, apart 1 40 = BAD, apart 1 14 = BAD
            apart 1 -1 = BAD, apart 1 -12 = BAD, apart 1 90 = BAD, apart 1 1010 = BAD, apart 1 BIG = BAD, apart 1 SMALL = BAD
            """);
        run("22: BAD; NOT", FOUR_HOSTS + """
            apart 3 22 = NOT, apart 10 21 = NOT, apart 1 21 = 4, apart 3 21 = 2, apart 30 22 = 1, apart 30 20 = 1, apart 0 22 = BAD
            apart 1 321 = BAD, doors 4, apart 1 321 = NOT, apart 1 301 = 4
            """);
    }

    private static void drawsAndPartner() {
        run("23: DRAWN (nw: 10 n and the way): how often won (what 0), SEEN (1)", RICH + """
            drawn 5 10 2 = BAD, drawn 5 10 -1 = BAD, drawn 5 10 BIG = BAD, drawn 5 9 0 = BAD, drawn 5 0 0 = BAD, drawn 5 510 0 = BAD
            drawn 5 503 0 = BAD, drawn 5 13 1 = BAD, drawn 5 -1 0 = BAD, drawn 5 -500 0 = BAD, drawn 5 502 1, drawn 5 12 0
            """);
        run("23: STATE: all WEIGHTS are 0", NIL + """
            drawn 5 10 0 = STATE, drawn 5 502 1 = STATE, drawn 5 10 2 = BAD, drawn 5 0 0 = BAD, mend 3 0 1, drawn 5 500 0 = 50
            """);
        run("24: CODE: of a DOOR the number it says becomes v: what it was. BAD", RICH + """
            code 4 0 = BAD, code -1 0 = BAD, code 3 5 = BAD, code 1 -1 = BAD, code BIG 0 = BAD, code SMALL 0 = BAD, code 0 BIG = BAD, code 0 SMALL = BAD
            code 3 0 = 4, code 3 4 = 0, code 3 4 = 4, count 4 = 6
            """);
        run("25: by the CODE (m 0), the best of m numbers (1 .. 5): part 0, 1", RICH + """
            partner -1 = MIN, partner 6 = MIN, partner BIG = MIN, partner SMALL = MIN, partner 0 2 = MIN, partner 0 -1 = MIN, partner 5 2 = MIN
            partner 0 = 15/17, partner 1 = 7/17, partner 2 = 12/17, partner 3 = 15/17, partner 4 = 1/1, partner 5 = 1/1
            """);
        run("25: NOT likewise", NIL + """
            partner 0 = NOT, partner 1 = NOT, partner 5 = NOT, partner 6 = MIN, partner 0 2 = MIN
            """);
        run("26: The EVENING ends, the cow was behind a DOOR: 1 WON, 2 SEEN, 0 LOST", RICH + """
            win 0 = 2, led 1 = 2, win 0 = 0, led 2 = 2, win 3 = 1, led 0 = 2
            """);
        run("26: it begins anew", RICH + """
            win 1 = 2, count 2 = 0, count 1 = 0, of 0 10 = VOID, of 0 22 = 3, anew = 0, win 2 = 0, of 0 22 = 3, back = 1, led 1 = 1
            """);
        run("26: BAD", RICH + """
            win 4 = BAD, win -1 = BAD, win BIG = BAD, win SMALL = BAD, count 2 = 2
            """);
        run("27: LED: WON (what 0), SEEN (1), LOST (2). BAD", RICH + """
            led 0 = 1, led 1 = 1, led 2 = 1, led 3 = BAD, led -1 = BAD, led BIG = BAD, led SMALL = BAD
            """);
    }

    private static void keptAndUndone() {
        run("28: AN IMAGE is kept: how many ACTS", RICH + """
            image = 2, anew, image = 0, opened 1, opened 0, back = 0, of 0 10 = VOID, opened 0, opened 1, opened -1, image = 3, anew, back = 3, of 0 10 = 0, of 2 10 = -1
            """);
        run("29: It is laid back: how many ACTS", RICH + """
            back = 1, of 0 22 = 2, of 0 10 = 0, of 1 10 = VOID, opened 1 = 2, back = 1, back = 1
            """);
        run("29: STATE: there is none", """
            back = STATE, opened 1, choose 2, win 0, back = STATE, image = 0, back = 0
            """);
        run("29: or doors() came since", RICH + """
            doors 6 = BAD, back = 1, doors 4 = 4, back = STATE, opened 1, back = STATE, image = 1, back = 1
            """);
        run("30: UNDONE: how many may still be. STATE: none", RICH + """
            undo = 5, of 0 20 = 0, undo = 4, of 0 21 = 1, undo = 3, of 3 0 = 1, undo = 2, undo = 1, undo = 0, of 0 0 = 1, undo = STATE, count 4 = 0
            """);
        run("31: DONE AGAIN: how many may still be. STATE: none", RICH + """
            redo = 0, of 0 20 = 2, redo = STATE, count 4 = 7, undo = 6, undo = 5, undo = 4, redo = 2, of 0 21 = 2, redo = 1, redo = 0, redo = STATE
            """);
    }

    private static void bodies() {
        run("32: A DOOR of a KIND (0 .. 7) is kept: its number. BAD, FULL", RICH + """
            body 8 = BAD, body -1 = BAD, body BIG = BAD, body SMALL = BAD, body 7 = 3, body 0 = 4, count 5 = 5
            45* body 2
            body 0 = FULL, body 8 = BAD, count 5 = 50
            """);
        run("33: An ACT (0 .. 3) of a DOOR with x", RICH + """
            act 0 0 5 = 5, count 6 = 1, act 0 3 5 = 9, count 6 = 4, act 2 0 5 = 10, count 6 = 2, act 1 2 SMALL = 2147483643
            """);
        run("33: 0, and no TRACE then: no such DOOR, ACT", RICH + """
            trace 0 = 81, act 3 0 5 = 0, trace 0 = BAD, count 6 = 0, act 0 0 5 = 5, trace 0 = 1, act 0 4 5 = 0, trace 0 = BAD, count 6 = 0
            act 0 0 5 = 5, act -1 0 5 = 0, count 6 = 0, act 0 0 5 = 5, act 0 -1 5 = 0, count 6 = 0
            """);
        run("34: THE TRACE's i-th body. BAD", RICH + """
            trace 0 = 81, trace 13 = 1, trace 14 = BAD, trace 23 = BAD, trace 24 = BAD, trace -1 = BAD, trace BIG = BAD, trace SMALL = BAD
            """);
    }

    private static void shelves() {
        run("35: A SHELF holds nothing (body -1), or a DOOR: 1. BAD", RICH + """
            keep 6 0 = BAD, keep -1 0 = BAD, keep 0 3 = BAD, keep 0 -2 = BAD, keep 0 BIG = BAD, keep 6 -1 = BAD
            keep 1 2 = 1, taken 1 0 = 7, element 1 0 = MIN, keep 1 -1 = 1, taken 1 0 = -11, keep 1 -1 = 1, keep 0 0 = 1, taken 0 0 = 0
            """);
        run("36: A SHELF holds a ROW: 1. BAD (sort, n above 60); -14", RICH + """
            row 0 5 1 = BAD, row 0 -1 1 = BAD, row 0 0 61 = BAD, row 6 0 1 = BAD, row -1 0 1 = BAD, row 0 BIG 1 = BAD, row 0 0 BIG = BAD
            row 0 0 -1 = -14, row 1 3 SMALL = -14, row 0 5 -1 = BAD, row 6 0 -1 = BAD
            row 0 0 60 = 1, element 0 59 = 0, row 0 4 0 = 1, element 0 0 = MIN, row 1 0 6 = 1, element 1 0 = 0
            """);
        run("37: Element i of a ROW becomes v: 1. BAD, -11, -12, -13", RICH + """
            put 6 0 1 = BAD, put -1 0 1 = BAD, put 4 0 1 = -11, put 0 0 1 = -12, put 1 6 1 = -13, put 1 -1 1 = -13, put 3 2 1 = -13
            put 1 5 -128 = 1, element 1 5 = -128, put 1 0 1 = 1, element 1 0 = 1, element 1 1 = 0
            """);
        run("38: Element i of a ROW; Long.MIN_VALUE: BAD, -11 to -13", RICH + """
            element 6 0 = MIN, element -1 0 = MIN, element 4 0 = MIN, element 0 0 = MIN, element 1 6 = MIN, element 1 -1 = MIN, element 1 BIG = MIN
            element 1 SMALL = MIN, element 1 4 = -1, element 2 1 = -7, element 3 0 = 1, element 3 1 = 0
            """);
        run("39: n elements of a ROW from i on come to another one (or the same) from j on, as they all were before: n", RICH + """
            bytes 4 1 2 3 4 5
            shift 4 0 4 1 4 = 4, element 4 0 = 1, element 4 1 = 1, element 4 2 = 2, element 4 3 = 3, element 4 4 = 4
            shift 4 1 4 0 4 = 4, element 4 0 = 1, element 4 1 = 2, element 4 2 = 3, element 4 3 = 4, element 4 4 = 4
            shift 4 0 1 1 5 = 5, element 1 0 = 2, element 1 1 = 1, element 1 5 = 4, shift 4 5 1 6 0 = 0, shift 4 0 4 0 5 = 5, element 4 4 = 4
            """);
        run("39: BAD, -11 (either), -12 (no ROWS, or of unlike sorts), -13", RICH + """
            shift 6 0 1 0 1 = BAD, shift 1 0 6 0 1 = BAD, shift 4 0 1 0 1 = -11, shift 1 0 4 0 1 = -11, shift 0 0 1 0 1 = -12
            shift 1 0 0 0 1 = -12, shift 0 0 0 0 1 = -12, shift 1 0 2 0 1 = -12, shift 2 0 3 0 1 = -12, shift 1 0 1 0 7 = -13, shift 1 6 1 0 1 = -13
            shift 1 0 1 6 1 = -13, shift 1 -1 1 0 1 = -13, shift 1 0 1 -1 1 = -13, shift 1 0 1 0 -1 = -13, shift 1 7 1 0 0 = -13
            row 4 4 5, shift 3 0 4 4 1 = 1, element 4 4 = 1, shift 3 0 4 4 2 = -13, element 4 4 = 1, row 5 1 5, shift 1 0 5 0 1 = -12
            """);
        run("40: What a SHELF holds, taken for a DOOR of KIND k (0 .. 7), or under it: its KIND", RICH + """
            taken 0 0 = 4, taken 0 1 = 4, taken 0 4 = 4, taken 0 7 = -12, taken 0 2 = -12, taken 0 3 = -12, taken 0 5 = -12, taken 0 6 = -12
            taken 0 8 = BAD, taken 0 -1 = BAD, taken 0 BIG = BAD
            """);
        run("40: BAD, -11, -12", RICH + """
            taken 6 0 = BAD, taken -1 0 = BAD, taken 4 8 = BAD, taken 4 0 = -11, taken 1 0 = -12, taken 1 7 = -12, taken 1 8 = BAD
            """);
    }

    private static void count() {
        run("41: 0 DOORS, 1 that are open, 2 ACTS told, 3 bytes on THE TAPE, 4 changes that may be UNDONE, 5 BODIES, 6 bodies that ran", RICH + """
            count 0 = 4, count 1 = 2, count 2 = 2, count 3 = 2, count 4 = 6, count 5 = 3, count 6 = 14
            opened -1, count 1 = 2, count 2 = 3, undo, count 4 = 5, redo, count 4 = 6, trace 0, count 6 = 14, win 2, count 1 = 0, count 2 = 0
            """);
        run("41: BAD", RICH + """
            count 7 = BAD, count -1 = BAD, count BIG = BAD, count SMALL = BAD
            """);
    }
}
