/** The Terms' sentences on hosts together, draws, a partner, LED, CHANGES, an image: each boundary case has a run of its own. */
public final class BoundaryHostsTest {
    private static final String RICH = States.RICH, NIL = States.NIL, FOUR_HOSTS = States.FOUR_HOSTS;

    public static void main(String[] args) {
        sureAndHardest();
        whichHost();
        judged();
        toldApart();
        drawn();
        partner();
        led();
        changes();
        manyChanges();
        unlikeChanges();
        image();
        Run.end();
    }

    private static void run(String sentence, String text) {
        Run.run(sentence, text);
    }

    private static void sureAndHardest() {
        run("HOSTS together: of those told (bits)", RICH + """
            sure 0 0 = MIN, sure 16 0 = MIN, sure -1 0 = MIN, sure BIG 0 = MIN, sure SMALL 0 = MIN
            hardest 0 = MIN, hardest 16 = MIN, hardest -1 = MIN, hardest 17 = MIN
            sure 15 0, sure 1 0, sure 8 3, hardest 15, hardest 8 2 = 3, hardest 1 2 = 0
            """);
        run("SURE: the greater one of the least worths, over these HOSTS, of STAYING and of CHANGING at the end", FOUR_HOSTS + """
            sure 1 0 = 2/3, sure 2 0 = 1/2, sure 3 0 = 1/2, sure 4 0 = 1/3, sure 7 0 = 1/3, sure 8 0 = 1/3, sure 15 0 = 1/3
            sure 1 0 2 = 1, sure 2 0 2 = 1, sure 3 0 2 = 1
            # HOST, who is there, does not count
            mend 0 1 3, sure 1 0 = 2/3, sure 1 0 2 = 1
            mend 0 0 10, sure 1 0 = 5/6, sure 1 0 2 = 0, sure 1 1 = 11/12, sure 1 1 2 = 1
            """);
        run("which (0 STAYING, of like ones that)", FOUR_HOSTS + """
            sure 4 0 2 = 0, sure 8 0 2 = 0, sure 15 0 2 = 0, mend 0 0 2, sure 1 0 = 1/2, sure 1 0 2 = 0
            """);
        run("HARDEST: of these that HOST by whom THE BEST is least", FOUR_HOSTS + """
            hardest 15 = 1/3, hardest 15 2 = 3, hardest 7 = 1/2, hardest 7 2 = 1, hardest 1 = 2/3, hardest 1 2 = 0
            mend 0 1 2, hardest 15 2 = 3
            """);
        run("(of like ones the least number)", FOUR_HOSTS + """
            hardest 5 2 = 0, hardest 5 = 2/3, hardest 4 2 = 2
            text 0
            law 1 = 1, hardest 10 2 = 1, hardest 15 2 = 1, hardest 13 2 = 3
            """);
    }

    private static void whichHost() {
        run("WHICH HOST: by EVENINGS told (a ROW of bytes on a SHELF, 4 at most", FOUR_HOSTS + """
            bytes 0 0 2 1 0 2 1 0 2 1 0 2 1
            which 0 90 = 256/257, which 0 93 = 1/257
            bytes 0 0 2 1 0 2 1 0 2 1 0 2 1 0
            which 0 90 = MIN
            bytes 0 0 2 1 0 2 1 0 2 1 0 2 1 0 2
            which 0 90 = MIN
            bytes 0 0 2 1 0 2 1 0 2 1 0 2 1 0 2 1
            which 0 90 = MIN
            row 0 0 60, which 0 90 = MIN
            """);
        run("by threes the CHOSEN DOOR, the one opened in the first ACT or -1, where the cow was", FOUR_HOSTS + """
            bytes 0 0 -1 1
            which 0 150 = 0/1, which 0 151 = 2/7, which 0 152 = 4/7, which 0 153 = 1/7
            bytes 0 2 1 0
            which 0 150 = 4/7, which 0 151 = 2/7, which 0 152 = 0/1, which 0 153 = 1/7
            bytes 0 1 0 1
            which 0 150 = 1/3, which 0 151 = 1/6, which 0 152 = 1/3
            """);
        run("how likely it is one of the HOSTS, all alike ahead", FOUR_HOSTS + """
            row 0 0 0
            which 0 10 = 1/1, which 0 30 = 1/2, which 0 71 = 1/3, which 0 150 = 1/4, which 0 153 = 1/4
            bytes 1 0 2 1 0 1 0
            which 1 150 = 8/11, which 1 151 = 2/11, which 1 153 = 1/11, which 1 10 = 1/1, which 1 91 = MIN, which 1 90 = 8/9
            # neither the evening that is told, nor HOST, nor WEIGHTS
            opened 1, mend 0 1 3, mend 0 0 12, which 1 150 = 8/11
            """);
        run("a fraction (0 by 1, if by none)", FOUR_HOSTS + """
            bytes 0 0 2 2
            which 0 10 = 0/1, which 0 50 = 0/1, which 0 52 = 0/1, which 0 70 = 0/1, which 0 90 = 0/1, which 0 93 = 1/1
            bytes 0 0 0 1
            which 0 153 = 0/1
            bytes 0 3 1 0
            which 0 153 = 0/1
            bytes 0 0 3 1
            which 0 153 = 0/1
            bytes 0 0 1 3
            which 0 153 = 0/1
            bytes 0 -1 1 0
            which 0 153 = 0/1
            bytes 0 0 -2 1
            which 0 153 = 0/1
            bytes 0 0 1 -1
            which 0 153 = 0/1
            bytes 0 0 1 0 0
            which 0 153 = 0/1
            bytes 0 0 1
            which 0 153 = 0/1
            """);
    }

    private static void judged() {
        run("JUDGED, of any length", FOUR_HOSTS + """
            row 0 0 0, judge 0 1 = NOT
            doors 2, row 1 0 60
            # 0 0 0: he opened the one CHOSEN
            judge 1 15 = 0
            row 0 0 3, put 0 1 -1, put 0 2 1, judge 0 1 = NOT
            shift 0 0 1 0 3 = 3, shift 0 0 1 3 3 = 3, shift 1 0 1 6 6 = 6, shift 1 0 1 12 12 = 12, shift 1 0 1 24 24 = 24
            judge 1 15 = 16, shift 1 0 1 48 12 = 12, judge 1 15 = NOT, judge 1 1 = NOT
            put 1 59 0, judge 1 1 = 19, judge 1 2 = NOT, put 1 56 0, judge 1 1 = 18, judge 1 5 = 18, judge 1 3 = NOT
            """);
        run("the first three that cannot be by any of them", FOUR_HOSTS + """
            bytes 0 0 2 1 0 1 0 0 2 2 0 1 2
            judge 0 1 = 2, judge 0 4 = 0, judge 0 6 = 2, judge 0 2 = 2, judge 0 8 = NOT, judge 0 9 = NOT
            # each one by another host
            bytes 1 0 -1 1 0 2 1
            judge 1 1 = 0, judge 1 4 = 1, judge 1 5 = NOT
            """);
        run("cannot be: what is as little as can be may be", """
            doors 5
            text d=4?1;11
            law 1 = 1
            bytes 0 0 4 0 0 4 4
            judge 0 2 = NOT, which 0 21 = 1/1, which 0 31 = 1/1, which 0 30 = 0/1, judge 0 1 = 0
            doors 2
            text 1
            law 1 = 1
            bytes 0 0 1 1
            judge 0 2 = NOT, judge 0 1 = 0
            """);
        run("in the first ACT", """
            text a=0&r=0?12;0
            law 1 = 1
            text a=0?0;12
            law 2 = 1
            bytes 0 0 1 1
            opened 1, opened -1
            judge 0 2 = NOT, judge 0 4 = 0, judge 0 9 = 0, which 0 61 = 1/1, which 0 62 = 0/1
            bytes 0 0 -1 1
            judge 0 2 = 0, judge 0 4 = NOT, which 0 61 = 0/1, which 0 62 = 1/1
            """);
        run("(no DOORS", FOUR_HOSTS + """
            bytes 0 0 1 0 3 1 0
            judge 0 15 = 1
            bytes 0 0 1 0 -1 1 0
            judge 0 15 = 1
            bytes 0 0 1 0 0 3 1
            judge 0 15 = 1
            bytes 0 0 1 0 0 -2 1
            judge 0 15 = 1
            bytes 0 0 1 0 0 1 3
            judge 0 15 = 1
            bytes 0 0 1 0 0 1 -1
            judge 0 15 = 1
            bytes 0 0 1 0 127 1 0
            judge 0 15 = 1
            bytes 0 0 1 0 0 -128 0
            judge 0 15 = 1
            # with more DOORS they are there
            bytes 0 3 1 0 0 3 1 0 1 3
            judge 0 15 = 0, doors 4, judge 0 15 = NOT
            """);
        run("a three's end that lacks", FOUR_HOSTS + """
            bytes 0 0
            judge 0 15 = 0
            bytes 0 0 1
            judge 0 15 = 0
            bytes 0 0 1 0
            judge 0 15 = NOT
            bytes 0 0 1 0 0
            judge 0 15 = 1
            bytes 0 0 1 0 0 1
            judge 0 15 = 1
            row 0 0 58, judge 0 15 = 0
            """);
        run("the opened one is CHOSEN, too)", FOUR_HOSTS + """
            bytes 0 0 1 0 1 1 0 0 0 0
            judge 0 15 = 1
            bytes 0 0 1 0 2 0 1 0 0 1
            judge 0 15 = 2
            """);
    }

    private static void toldApart() {
        run("TOLD APART: in the first ACT", """
            text a=0&r=0?12;1
            law 1 = 1
            text a=0&r=0?1;12
            law 2 = 1
            apart 12 10 = 1, apart 21 10 = NOT, apart 12 101 = 1, apart 12 201 = 1
            # as if the EVENING that is told were not
            opened 2, opened 1, apart 12 10 = 1, apart 21 10 = NOT
            """);
        run("TOLD APART: of each CHOSEN DOOR, opened one, cow", """
            doors 5
            text c*9+d*3+x=17?12;0
            law 1 = 1
            text 6
            law 2 = 1
            # d 0 is looked at first: 2 and 3 are told by halves, then by quarters
            apart 12 111 = BAD, apart 12 121 = NOT, apart 12 122 = 2, apart 12 103 = NOT, apart 12 301 = NOT
            text c*9+d*3+x=22?12;0
            law 1 = 1, apart 12 201 = NOT, apart 12 204 = 4, apart 12 211 = 2, apart 12 214 = NOT
            text c*9+d*3+x=37?12;0
            law 1 = 1, apart 12 401 = 4, apart 12 400 = NOT, apart 12 404 = NOT
            """);
        run("TOLD APART: how many EVENINGS alike (one three, 1 .. 4)", FOUR_HOSTS + """
            text 12
            law 0 = 1, apart 3 10 = 4
            text 4
            law 3 = 1, apart 3 10 = 3
            text 3
            law 3 = 1, apart 3 10 = 2
            text 1
            law 3 = 1, apart 3 10 = 1
            text 7
            law 3 = 1, apart 3 10 = NOT
            """);
        run("till of two HOSTS the one is likelier by 12 times; NOT", FOUR_HOSTS + """
            # 12 by 1 is just so; 11 by 1 is not
            text 12
            law 0 = 1
            text 1
            law 3 = 1, apart 3 10 = 1
            text 11
            law 0 = 1, apart 3 10 = 2
            # the one, not the other
            apart 30 10 = NOT
            """);
        run("the one is likelier: by neither, by both alike, by one of them alone", FOUR_HOSTS + """
            apart 2 22 = NOT, apart 20 22 = NOT, apart 2 20 = NOT, apart 30 22 = 1, apart 3 22 = NOT, apart 12 22 = NOT
            """);
        run("TOLD APART: the farthest numbers", """
            doors 5
            text d=4?1;11
            law 1 = 1
            text d=4?12;0
            law 2 = 1
            text d=4?12;0
            law 3 = 1
            apart 21 40 = 1, apart 12 40 = NOT, apart 23 40 = NOT, apart 32 40 = NOT
            """);
    }

    private static void drawn() {
        run("DRAWN: n EVENINGS (1 .. 50) of a way (0 STAYING, 1 CHANGING at the end, 2 CHANGING each time)", RICH + """
            drawn 1 0 0 = BAD, drawn 1 9 0 = BAD, drawn 1 -10 0 = BAD, drawn 1 510 0 = BAD, drawn 1 BIG 0 = BAD, drawn 1 SMALL 0 = BAD
            drawn 1 13 0 = BAD, drawn 1 19 0 = BAD, drawn 1 503 0 = BAD, drawn 1 10 2 = BAD, drawn 1 10 -1 = BAD
            drawn 1 10 0, drawn 1 500 0, drawn 1 502 1, drawn 1 501 0
            """);
        run("by a SEED: z = z * 1103515245 + 12345 (an int; SEED at first) ahead of each draw", """
            drawn 0 500 0 = 17, drawn 0 501 0 = 33, drawn 1 500 0 = 19, drawn -1 500 0 = 15, drawn BIG 500 0 = 21
            drawn SMALL 500 0 = 17, drawn SMALL 501 0 = 33, drawn 0 10 0 = 1, drawn 1 10 0 = 0, drawn 1 11 0 = 1
            # the SEED begins anew with each call
            drawn 0 500 0 = 17
            """);
        run("the cow: (z >>> 8) % all WEIGHTS together, by DOORS", """
            mend 0 0 0, mend 1 0 0, mend 2 0 12, choose 2
            drawn 9 500 0 = 50, drawn 9 501 0 = 0, drawn 9 500 1 = 0, choose 0, drawn 9 501 0 = 50, mend 0 2 2, drawn 9 502 0 = 50
            """);
        run("then A ACTS, a draw (z >>> 8) % 12 for each DOOR looked at", """
            doors 5
            text 6
            law 0 = 1, mend 0 2 3, mend 0 0 3, mend 1 0 0, mend 2 0 12, choose 2
            drawn 0 500 0 = 36, drawn 0 500 1 = 13, drawn 0 501 0 = 1, drawn 0 501 1 = 13, drawn 0 502 0 = 3, drawn 0 502 1 = 26
            drawn BIG 500 0 = 33, drawn BIG 502 0 = 5, drawn BIG 502 1 = 25, drawn SMALL 501 0 = 4, drawn SMALL 501 1 = 11
            drawn -1 500 0 = 38, drawn -1 500 1 = 7, drawn -1 502 1 = 25
            """);
        run("DRAWN: the ACT's number goes from 0 on, whatever is told", """
            text a=2?12;0
            law 0 = 1, mend 1 0 2, mend 2 0 5, opened 1, opened -1, drawn 9 501 0 = 14, mend 0 2 2, drawn 9 501 0 = 8, drawn 9 502 0 = 4
            mend 0 2 3, drawn 9 501 0 = 32, drawn 9 501 1 = 12, drawn 9 502 0 = 32, count 2 = 2, count 1 = 1
            """);
        run("how often the cow is won; how often SEEN", """
            text 12
            law 0 = 1, choose 1
            drawn 9 500 0 = 11, drawn 9 500 1 = 11, drawn 9 501 0 = 28, mend 0 2 2, drawn 9 500 0 = 15, drawn 9 500 1 = 35
            drawn 9 501 0 = 15, drawn 9 502 0 = 23, drawn 9 502 1 = 27, mend 0 2 3, drawn 9 502 0 = 23, drawn 9 501 1 = 35
            """);
    }

    private static void partner() {
        run("CODE: DOOR by DOOR the number it says (0 .. 4; 0 at first)", RICH + """
            of 0 2 = 0, of 1 2 = 2, of 3 2 = 4, code 0 5 = BAD, code 0 -1 = BAD, code 4 0 = BAD, code -1 0 = BAD, code 0 BIG = BAD
            code 0 4 = 0, of 0 2 = 4, code 0 0 = 4, code 0 0 = 0, doors 4, of 3 2 = 0, of 1 2 = 0
            """);
        run("how likely the cow is won by that alone, the likeliest DOOR of each number being CHOSEN", """
            doors 5, mend 0 0 2, mend 1 0 7, mend 2 0 3, mend 3 0 7
            partner 0 = 7/20, code 4 4, partner 0 = 2/5, code 1 4, partner 0 = 7/10, code 0 3, partner 0 = 4/5, code 2 1, partner 0 = 19/20
            code 4 2, partner 0 = 1/1
            # what is told does not count
            opened 1, choose 2, partner 0 = 1/1, mend 1 0 0, mend 3 0 0, partner 0 = 1/1, code 4 1, partner 0 = 5/6
            """);
        run("says a number of m (1 .. 5)", RICH + """
            partner -1 = MIN, partner 6 = MIN, partner BIG = MIN, partner SMALL = MIN, partner 1 = 7/17, partner 5 = 1/1
            """);
        run("the best that any CODE of m numbers brings", """
            doors 5, mend 0 0 2, mend 1 0 7, mend 2 0 3, mend 3 0 7
            partner 1 = 7/20, partner 2 = 7/10, partner 3 = 17/20, partner 4 = 19/20, partner 5 = 1/1
            doors 2, partner 1 = 1/2, partner 2 = 1/1, partner 3 = 1/1, partner 5 = 1/1, mend 0 0 0, partner 1 = 1/1, partner 5 = 1/1
            code 1 4, partner 1 = 1/1, partner 0 = 1/1
            """);
        run("A PARTNER: NOT, if all WEIGHTS are 0", NIL + """
            partner 0 = NOT, partner 1 = NOT, partner 5 = NOT, partner 6 = MIN
            """);
    }

    private static void led() {
        run("LED: in deed: an EVENING is played to its end: where the cow was is told: WON, SEEN, LOST so far", """
            led 0 = 0, led 1 = 0, led 2 = 0, win 0 = 1, win 1 = 0, win 2 = 0, opened 1, win 1 = 2
            led 0 = 1, led 1 = 1, led 2 = 2, win 1 = 0, led 2 = 3
            # whatever the host may do, and whatever the WEIGHTS are
            opened -1, mend 0 0 0, win 0 = 1, led 0 = 2, doors 4, led 0 = 2, led 1 = 1, led 2 = 3
            """);
        run("LED: a long way", """
            200* win 0 = 1
            led 0 = 200
            200* win 1 = 0
            led 2 = 200, led 1 = 0
            """);
    }

    private static void changes() {
        run("CHANGES (WEIGHTS; HOST, A", """
            code 0 1, choose 1, opened 0, win 0, anew, body 0, row 0 0 1, put 0 0 7, weights 0 0 1 = 1, feed 54, law 0 = 1, image, back
            count 4 = 0, undo = STATE, redo = STATE
            mend 2 0 2, mend 0 1 2, mend 0 2 2, count 4 = 3
            """);
        run("telling the same number is none", """
            mend 0 0 1 = 1, mend 0 1 0 = 0, mend 0 2 1 = 1, count 4 = 0, undo = STATE
            mend 0 0 2 = 1, mend 0 0 2 = 2, count 4 = 1, undo = 0, mend 0 0 1 = 1, redo = 0, of 0 0 = 2
            """);
        run("can be UNDONE, the latest first", """
            mend 0 0 2, mend 0 0 3, mend 0 1 3, mend 0 2 3
            undo = 3, of 0 21 = 1, of 0 20 = 3, undo = 2, of 0 20 = 0, undo = 1, of 0 0 = 2, undo = 0, of 0 0 = 1, undo = STATE
            """);
        run("and DONE AGAIN (as long as no other came behind)", """
            mend 0 0 2, mend 0 0 3, undo = 1, undo = 0, redo = 1, of 0 0 = 2, redo = 0, of 0 0 = 3, redo = STATE
            undo = 1, mend 1 0 5, redo = STATE, count 4 = 2, undo = 1, undo = 0, of 0 0 = 1, redo = 1, redo = 0, of 0 0 = 2, of 1 0 = 5
            """);
        run("as long as no other came behind: one that is refused or none does not", """
            mend 0 0 2, undo = 0, mend 0 0 13 = BAD, mend 3 0 1 = BAD, mend 0 1 0 = 0, redo = 0, of 0 0 = 2
            undo = 0, bytes 0 9 9 9
            weights 0 0 3 = 3, redo = 0, of 0 0 = 2, of 1 0 = 9, undo = 0, of 0 0 = 1
            """);
    }

    private static void manyChanges() {
        String twoChanges = "mend 0 0 2 = 1\nmend 0 0 1 = 2\n";
        run("40 at most are kept", twoChanges.repeat(20) + """
            count 4 = 40, mend 0 0 7 = 1, count 4 = 40, mend 1 0 7 = 1, count 4 = 40
            40* undo
            undo = STATE, of 0 0 = 1, of 1 0 = 1, count 4 = 0
            40* redo
            redo = STATE, of 0 0 = 7, of 1 0 = 7, count 4 = 40
            """);
        run("40 at most are kept: the oldest is gone, and none else", "mend 2 0 9\nmend 2 0 8\n" + twoChanges.repeat(19) + """
            count 4 = 40, mend 1 0 3 = 1, count 4 = 40
            39* undo
            of 0 0 = 1, of 1 0 = 1, of 2 0 = 8, count 4 = 1, undo = 0, of 2 0 = 9, undo = STATE, of 2 0 = 9
            redo = 39, of 2 0 = 8, mend 2 0 5 = 8, redo = STATE, count 4 = 2, undo = 1, of 2 0 = 8, undo = 0, of 2 0 = 9
            """);
    }

    private static void unlikeChanges() {
        run("40 at most are kept: unlike ones, each as it was", """
            doors 5, mend 0 0 12, mend 0 1 3, mend 0 2 3, mend 4 0 9, mend 0 1 1
            """ + "mend 1 0 2 = 1\nmend 0 2 1 = 3\nmend 3 0 7 = 1\nmend 0 1 2 = 1\nmend 1 0 1 = 2\nmend 0 2 3 = 1\nmend 3 0 1 = 7\nmend 0 1 1 = 2\n".repeat(4) + """
            count 4 = 37, mend 2 0 5 = 1, mend 0 1 0 = 1, mend 0 2 2 = 3, count 4 = 40, mend 2 0 6 = 5, mend 0 1 3 = 0, count 4 = 40
            undo = 39, of 0 20 = 0, undo = 38, of 2 0 = 5, undo = 37, of 0 21 = 3, undo = 36, of 0 20 = 1, undo = 35, of 2 0 = 1
            undo = 34, of 0 20 = 2, undo = 33, of 3 0 = 7, undo = 32, of 0 21 = 1, undo = 31, of 1 0 = 2, undo = 30, of 0 20 = 1
            undo = 29, of 3 0 = 1, undo = 28, of 0 21 = 3, undo = 27, of 1 0 = 1
            24* undo
            of 0 20 = 1, count 4 = 3, undo = 2, of 0 20 = 3, undo = 1, of 4 0 = 1, undo = 0, of 0 21 = 1, undo = STATE
            # the oldest two are gone
            of 0 0 = 12, of 0 20 = 3, redo = 39, of 0 21 = 3, redo = 38, of 4 0 = 9, redo = 37, of 0 20 = 1
            37* redo
            redo = STATE, of 0 20 = 3, of 2 0 = 6, of 0 21 = 2, of 4 0 = 9, of 0 0 = 12
            """);
    }

    private static void image() {
        run("AN IMAGE keeps CHOSEN, the EVENING's ACTS, what LED tells", """
            choose 2, opened 0, win 0 = 2, win 2 = 1, win 1 = 0, opened 1, opened -1, image = 2
            win 2 = 1, win 1 = 0, opened 0, win 0 = 2, choose 0, opened 2
            back = 2, of 0 22 = 2, of 0 10 = 1, of 0 11 = 2, of 1 10 = -1, of 1 11 = 2, of 1 1 = 1, of 2 1 = 0, count 1 = 1
            led 0 = 1, led 1 = 1, led 2 = 1, opened 0 = 3
            """);
        run("AN IMAGE keeps these, and nothing else", """
            image = 0, mend 0 0 5, mend 0 1 2, mend 0 2 3, code 1 3, feed 54, body 0, row 0 0 2
            back = 0, of 0 0 = 5, of 0 20 = 2, of 0 21 = 3, of 1 2 = 3, count 3 = 1, count 4 = 3, count 5 = 1, element 0 1 = 0
            """);
        run("AN IMAGE: the latest one; laid back as often as is asked", """
            image = 0, opened 1, image = 1, opened 2, back = 1, of 0 10 = 1, of 1 10 = VOID, anew, choose 1, back = 1, of 0 22 = 0
            opened 2 = 2, back = 1, opened -1 = 2
            """);
    }
}
