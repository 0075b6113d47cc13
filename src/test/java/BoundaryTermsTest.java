/** The sentences of the document's Terms that name a boundary case, each with a run of its own. */
public final class BoundaryTermsTest {
    public static void main(String[] args) {
        doorsAndWeights();
        lines();
        operands();
        openSigns();
        names();
        values();
        whichLineCounts();
        faults();
        acts();
        Run.end();
    }

    private static void run(String sentence, String text) {
        Run.run(sentence, text);
    }

    private static void doorsAndWeights() {
        run("DOORS 0 .. n - 1 (n 2 .. 5; 3 at first)", """
            count 0 = 3, of 0 23 = 3, of 2 0 = 1, of 3 0 = VOID, of -1 0 = VOID
            doors 1 = BAD, doors 0 = BAD, doors -2 = BAD, doors 6 = BAD, doors BIG = BAD, doors SMALL = BAD
            doors 2 = 3, of 1 0 = 1, of 2 0 = VOID, choose 2 = BAD, choose 1 = 0
            doors 5 = 2, of 4 0 = 1, of 5 0 = VOID, choose 5 = BAD, choose 4 = 0
            """);
        run("WEIGHT (0 .. 12; 1 at first)", """
            of 0 0 = 1, of 1 0 = 1, of 2 0 = 1
            mend 1 0 -1 = BAD, mend 1 0 13 = BAD, mend 1 0 BIG = BAD, mend 1 0 SMALL = BAD
            mend 1 0 12 = 1, of 1 0 = 12, mend 1 0 0 = 12, of 1 0 = 0, mend 1 0 1 = 0
            """);
        run("the cow is behind one of them, by WEIGHTS", """
            likely 0 = 1/3, likely 1 = 1/3, likely 2 = 1/3
            mend 0 0 0, mend 1 0 5, mend 2 0 7
            likely 0 = 0/1, likely 1 = 5/12, likely 2 = 7/12
            mend 2 0 0, likely 1 = 1/1, likely 2 = 0/1
            mend 1 0 0, likely 0 = NOT, likely 1 = NOT
            mend 0 0 12, mend 1 0 12, mend 2 0 12, likely 1 = 1/3
            """);
        run("CHOSEN: a DOOR (0 at first)", """
            of 0 22 = 0, choose -1 = BAD, choose 3 = BAD, of 0 22 = 0, choose 2 = 0, of 0 22 = 2, choose 0 = 2
            """);
        run("HOSTS 0 .. 3: LAWS", """
            feed 54, law -1 = BAD, law 4 = BAD, law 3 = 1, feed 55, law 0 = 1
            opens 10 = 7, mend 0 1 3 = 0, opens 10 = 6
            """);
        run("HOST: one of them (0 at first)", """
            of 0 20 = 0, mend 0 1 -1 = BAD, mend 0 1 4 = BAD, mend 0 1 3 = 0, of 0 20 = 3
            """);
        run("A LAW is a TEXT by THE TAPE (at most 120 bytes)", """
            119* feed 33
            feed 49 = 120, feed 49 = FULL, feed 0 = FULL, count 3 = 120, law 0 = -106, count 3 = 0, feed 49 = 1
            """);
        run("(at most 120 bytes): all of them count", """
            text 0
            59* text +0
            feed 43 = 120
            law 0 = -220
            text !0
            59* text +1
            count 3 = 120, law 0 = 1, opens 10 = 12
            text 1-9+0000
            56* text +0
            count 3 = 120, law 0 = 1, opens 10 = 0
            """);
    }

    private static void lines() {
        run("LINES, one or more, parted by ;", """
            law 0 = -100
            text ;
            law 0 = -100
            text 1
            law 0 = 1
            text 1;
            law 0 = -102
            text 1;;2
            law 0 = -102
            text 1;2
            law 0 = 1
            text 0?1;0?2;0?3;4
            law 0 = 1, opens 10 = 4
            """);
        run("LINES, one or more: as many as 120 bytes hold", """
            29* text 0?1;
            text 0?7
            count 3 = 119, law 0 = 1, opens 10 = 0
            29* text 0?1;
            text 1?7
            law 0 = 1, opens 10 = 7
            59* text 9;
            text 8
            count 3 = 119, law 0 = 1, opens 10 = 9
            """);
        run("LINE: E, or E ? E", """
            text ?1
            law 0 = -100
            text 1?
            law 0 = -102
            text 1?2?3
            law 0 = -103
            text 1?;2
            law 0 = -102
            text (1?2)
            law 0 = -102
            text (1;2)
            law 0 = -102
            text 1?2
            law 0 = 1, opens 10 = 2
            # each E is a whole one
            text 0|1?0|1;5
            law 0 = 1, opens 10 = 1
            text 1<2?((((((3))))));5
            law 0 = 1, opens 10 = 3
            text 1?(((((((3)))))))
            law 0 = -108
            text (((((((1)))))))?1
            law 0 = -106
            """);
        run("E = A { | A }. A = B { & B }.", """
            text |
            law 0 = -100
            text 1|
            law 0 = -102
            text 1||1
            law 0 = -102
            text 1&
            law 0 = -102
            text 1&&1
            law 0 = -102
            text 1&|1
            law 0 = -102
            text 1|0&0
            law 0 = 1, opens 10 = 1
            text 0&0|1
            law 0 = 1, opens 10 = 1
            text 0|0|0|1
            law 0 = 1, opens 10 = 1
            text 1&1&1&0
            law 0 = 1, opens 10 = 0
            """);
        run("B = S, or S < S, S = S, S > S", """
            text 1<2<3
            law 0 = -103
            text 1=1=1
            law 0 = -103
            text 3>2>1
            law 0 = -103
            text 1<2=1
            law 0 = -103
            text 1<
            law 0 = -102
            text 1<=2
            law 0 = -102
            text <1
            law 0 = -100
            text (1<2)=1
            law 0 = 1, opens 10 = 1
            text 2=(1<2)+1
            law 0 = 1, opens 10 = 1
            text 1<2&2>1|0
            law 0 = 1, opens 10 = 1
            """);
        run("S = P { + P, - P }. P = O { * O, / O, % O }.", """
            text 1+
            law 0 = -102
            text +1
            law 0 = -100
            text 1++1
            law 0 = -102
            text 1*
            law 0 = -102
            text *1
            law 0 = -100
            text 1**1
            law 0 = -102
            text 9-3-2
            law 0 = 1, opens 10 = 4
            text 9-3+2
            law 0 = 1, opens 10 = 8
            text 24/4/3
            law 0 = 1, opens 10 = 2
            text 9/2*2
            law 0 = 1, opens 10 = 8
            text 9%5*2
            law 0 = 1, opens 10 = 8
            text 1+2*3
            law 0 = 1, opens 10 = 7
            text 9-6/3
            law 0 = 1, opens 10 = 7
            """);
    }

    private static void operands() {
        run("O = a number (1 to 4 digits)", """
            text 12345
            law 0 = -104
            text 00012
            law 0 = -104
            text 1+12345
            law 0 = -106
            text 0012
            law 0 = 1, opens 10 = 12
            text 9999-9990
            law 0 = 1, opens 10 = 9
            text 0000
            law 0 = 1, opens 10 = 0
            text 1000-999
            law 0 = 1, opens 10 = 1
            text 0
            law 0 = 1, opens 10 = 0
            """);
        run("! O, - O, ( E )", """
            text !
            law 0 = -101
            text -
            law 0 = -101
            text (
            law 0 = -101
            text ()
            law 0 = -101
            text )
            law 0 = -100
            text (1
            law 0 = -102
            text 1)
            law 0 = -101
            text (1))
            law 0 = -103
            text !-1
            law 0 = 1, opens 10 = 0
            text -!0+3
            law 0 = 1, opens 10 = 2
            text !0+3
            law 0 = 1, opens 10 = 4
            text -3*-2
            law 0 = 1, opens 10 = 6
            text 7--3
            law 0 = 1, opens 10 = 10
            text -(2-9)
            law 0 = 1, opens 10 = 7
            """);
        run("No blanks", """
            text  1
            law 0 = -100
            feed 49, feed 32, law 0 = -101
            text 1 +1
            law 0 = -101
            feed 49, feed 10, law 0 = -101
            feed 9, law 0 = -100
            feed 0, law 0 = -100
            feed 49, feed 255, law 0 = -101
            """);
    }

    private static void openSigns() {
        run("At most 6 of ( ! - ahead of an O are open at once", """
            text ((((((1))))))
            law 0 = 1, opens 10 = 1
            text (((((((1)))))))
            law 0 = -106
            text !!!!!!7
            law 0 = 1, opens 10 = 1
            text !!!!!!!7
            law 0 = -106
            text ------7
            law 0 = 1, opens 10 = 7
            text -------7
            law 0 = -106
            text (!-(!-1))
            law 0 = 1
            text (!-(!-(1)))
            law 0 = -106
            text (!-(!-!1))
            law 0 = -106
            text 1+(!-(!(1)))
            law 0 = 1
            text 1+(!-(!(-1)))
            law 0 = -108
            """);
        run("At most 6 are open at once: what is closed counts no more", """
            text !!!!!!1+!!!!!!1
            law 0 = 1, opens 10 = 2
            text ((((((1))))))+((((((1))))))
            law 0 = 1, opens 10 = 2
            text (((((!1+!1+-1+(1)+!0)))))
            law 0 = 1
            text (((((!1+!(1))))))
            law 0 = -109
            text ((((((1)))+(((2))))))
            law 0 = 1, opens 10 = 3
            """);
        run("At most 6 of ( ! - ahead of an O: - between two is none", """
            text 9-1-1-1-1-1-1-1
            law 0 = 1, opens 10 = 2
            text ((((((9-1-1))))))
            law 0 = 1, opens 10 = 7
            text ((((((9-1--1))))))
            law 0 = -110
            text (((((9-1--1)))))
            law 0 = 1, opens 10 = 9
            """);
    }

    private static void names() {
        run("a NAME", """
            text e
            law 0 = -100
            text D
            law 0 = -100
            text X
            law 0 = -100
            text b
            law 0 = -100
            text dx
            law 0 = -101
            text d1
            law 0 = -101
            text 1d
            law 0 = -101
            feed 228, law 0 = -100
            text d+x+c+n+r+a
            law 0 = 1, opens 10 = 4
            """);
        run("NAMES: d the DOOR he looks at, x where the cow is, c the one CHOSEN", """
            doors 5, choose 4
            text d
            law 0 = 1, opens 4 = 0, opens 34 = 3
            text x
            law 0 = 1, opens 30 = 0, opens 33 = 3, opens 34 = 4
            text c
            law 0 = 1, opens 30 = 4, choose 0, opens 30 = 0
            """);
        run("n how many DOORS", """
            text n
            law 0 = 1, opens 10 = 3, doors 2, opens 10 = 2, doors 5, opens 10 = 5
            """);
        run("r how many are open: by each ACT, as the number of the ACT is", """
            doors 5
            text r*4+a
            law 0 = 1, opens 40 = 0, opened 1, opens 40 = 5, opened 2, opens 40 = 10, anew, opens 40 = 0, opened -1, opens 40 = 1
            opened -1, opens 40 = 2, anew, opened -1, opened 3, opens 40 = 6, anew, opened 3, opens 40 = 5, anew, opens 40 = 0
            """);
        run("r how many are open: NONE opens none", """
            text r=0?6;0
            law 0 = 1, opened -1, opened -1, likely 0 = 1/3, opened 1, likely 0 = 1/3, anew, opened 1, opened 2, likely 0 = NOT
            # in the draws, too
            text r=0&a=1?12;0
            law 0 = 1, mend 1 0 2, mend 2 0 5, mend 0 2 2, anew, drawn 9 500 0 = 7, drawn 9 501 0 = 27, drawn 9 501 1 = 16, drawn 9 502 1 = 7
            """);
        run("r how many are open", """
            doors 5, text r
            law 0 = 1, opens 40 = 0, opened -1, opens 40 = 0, opened 1, opens 40 = 1, opened 2, opens 40 = 2
            anew, opens 40 = 0, opened 1, opened 2, opened 3, opens 40 = 3
            """);
        run("a the ACT (0 on)", """
            text a
            law 0 = 1, opens 10 = 0, opened -1, opens 10 = 1, opened 2, opens 10 = 2, opened -1, opens 10 = 3, anew, opens 10 = 0
            """);
    }

    private static void values() {
        run("Ints that wrap", """
            text 1024*1024*2048<0
            law 0 = 1, opens 10 = 1
            text 1024*1024*2048-1>0
            law 0 = 1, opens 10 = 1
            text 1024*1024*2048=-1024*1024*2048
            law 0 = 1, opens 10 = 1
            text -(1024*1024*2048)<0
            law 0 = 1, opens 10 = 1
            text 1024*1024*4096+5
            law 0 = 1, opens 10 = 5
            text 1024*1024*2048+1024*1024*2048+7
            law 0 = 1, opens 10 = 7
            text 1024*1024*2047+1048*1000>0
            law 0 = 1, opens 10 = 1
            text 1024*1024*2047+1049*1000>0
            law 0 = 1, opens 10 = 0
            """);
        run("/ and % toward 0", """
            text 7/2
            law 0 = 1, opens 10 = 3
            text -7/2+9
            law 0 = 1, opens 10 = 6
            text 7/-2+9
            law 0 = 1, opens 10 = 6
            text -7/-2
            law 0 = 1, opens 10 = 3
            text -7%2+9
            law 0 = 1, opens 10 = 8
            text 7%-2+9
            law 0 = 1, opens 10 = 10
            text -7%-2+9
            law 0 = 1, opens 10 = 8
            text 1024*1024*2048/-1<0
            law 0 = 1, opens 10 = 1
            text 1024*1024*2048%-1+4
            law 0 = 1, opens 10 = 4
            """);
        run("by 0 they give 0", """
            text 7/0+3
            law 0 = 1, opens 10 = 3
            text 7%0+3
            law 0 = 1, opens 10 = 3
            text 0/0+3
            law 0 = 1, opens 10 = 3
            text 1024*1024*2048/0+3
            law 0 = 1, opens 10 = 3
            text 9/r+9%a+4
            law 0 = 1, opens 10 = 4
            """);
        run("| & < = > ! give 1, 0", """
            text 5|7
            law 0 = 1, opens 10 = 1
            text 0|-4
            law 0 = 1, opens 10 = 1
            text 0|0
            law 0 = 1, opens 10 = 0
            text 4&2
            law 0 = 1, opens 10 = 1
            text -1&-1
            law 0 = 1, opens 10 = 1
            text 4&0
            law 0 = 1, opens 10 = 0
            text 2<3
            law 0 = 1, opens 10 = 1
            text 3<3
            law 0 = 1, opens 10 = 0
            text -1<0
            law 0 = 1, opens 10 = 1
            text 3>2
            law 0 = 1, opens 10 = 1
            text 3>3
            law 0 = 1, opens 10 = 0
            text 3=3
            law 0 = 1, opens 10 = 1
            text 3=2
            law 0 = 1, opens 10 = 0
            text !0
            law 0 = 1, opens 10 = 1
            text !7
            law 0 = 1, opens 10 = 0
            text !-1
            law 0 = 1, opens 10 = 0
            text !!7
            law 0 = 1, opens 10 = 1
            """);
        run("| & < = > ! give 1, 0: just these", """
            text 5+(0|0)
            law 0 = 1, opens 10 = 5
            text 5+(3|4)
            law 0 = 1, opens 10 = 6
            text 5+(3&0)
            law 0 = 1, opens 10 = 5
            text 5+(3&4)
            law 0 = 1, opens 10 = 6
            text 5+(3<2)
            law 0 = 1, opens 10 = 5
            text 5+(2<3)
            law 0 = 1, opens 10 = 6
            text 5+(2=3)
            law 0 = 1, opens 10 = 5
            text 5+(3=3)
            law 0 = 1, opens 10 = 6
            text 5+(2>3)
            law 0 = 1, opens 10 = 5
            text 5+(3>2)
            law 0 = 1, opens 10 = 6
            text 5+!3
            law 0 = 1, opens 10 = 5
            text 5+!0
            law 0 = 1, opens 10 = 6
            """);
        run("all is worked out", """
            text 1|7/0
            law 0 = 1, opens 10 = 1
            text 0&7/0
            law 0 = 1, opens 10 = 0
            text (1|0)+(0&1)*7/0+5
            law 0 = 1, opens 10 = 6
            """);
    }

    private static void whichLineCounts() {
        run("(what counts if the first is not 0)", """
            text 1?5;6
            law 0 = 1, opens 10 = 5
            text -1?5;6
            law 0 = 1, opens 10 = 5
            text 0?5;6
            law 0 = 1, opens 10 = 6
            text 9999?5;6
            law 0 = 1, opens 10 = 5
            """);
        run("The first LINE without a first E, or whose first E is not 0, counts", """
            text 3;4
            law 0 = 1, opens 10 = 3
            text 0?3;4;5
            law 0 = 1, opens 10 = 4
            text 0?3;1?0;5
            law 0 = 1, opens 10 = 0
            text 0?3;0;5
            law 0 = 1, opens 10 = 0
            text x=1?3;d=1?4;5
            law 0 = 1, opens 11 = 3, opens 12 = 4, opens 22 = 5, opens 21 = 3
            """);
        run("none: 0", """
            text 0?3
            law 0 = 1, opens 10 = 0
            text 0?3;0?4;0?5
            law 0 = 1, opens 10 = 0
            # nothing of a longer law that was there is left
            text 0?3;0?4;9
            law 0 = 1, opens 10 = 9
            text 0?3
            law 0 = 1, opens 10 = 0
            """);
    }

    private static void faults() {
        run("FAULT: the place (from 0) of the first byte with which no TEXT goes on", """
            text =
            law 0 = -100
            text d=x?0;x=c&d=1??6;12
            law 0 = -114
            text 1;2;3!
            law 0 = -105
            text 1d)))
            law 0 = -101
            text 12345?;
            law 0 = -104
            """);
        run("FAULT: the length, if it ends too early", """
            text d=x?0;x=c&d=1?6;12+
            law 0 = -119
            text (((d
            law 0 = -104
            text ((((((
            law 0 = -106
            text !-!-!-
            law 0 = -106
            text 0?
            law 0 = -102
            law 0 = -100
            """);
    }

    private static void acts() {
        run("he looks at DOORS by numbers that are neither open nor CHOSEN, one by one", """
            doors 5, choose 2
            text 6
            law 0 = 1, opened 0
            next 1 = 1/2, next 3 = 1/4, next 4 = 1/8, next -1 = 1/8, next 0 = MIN, next 2 = MIN
            choose 1, next 2 = 1/2, next 3 = 1/4
            """);
        run("he opens one in so many of twelve as his LAW gives", """
            text 1
            law 0 = 1, next 1 = 1/12, next 2 = 11/144, next -1 = 121/144
            text 11
            law 0 = 1, next 1 = 11/12, next 2 = 11/144, next -1 = 1/144
            """);
        run("(held within 0 .. 12)", """
            text 13
            law 0 = 1, opens 10 = 12, next 1 = 1/1
            text -1
            law 0 = 1, opens 10 = 0, next -1 = 1/1
            text 12
            law 0 = 1, opens 10 = 12
            text 11
            law 0 = 1, opens 10 = 11
            text 1
            law 0 = 1, opens 10 = 1
            text 1024*1024*2048-1
            law 0 = 1, opens 10 = 12
            text 1024*1024*2048
            law 0 = 1, opens 10 = 0
            text 256
            law 0 = 1, opens 10 = 12
            """);
        run("and looks at no more then; else he goes on", """
            text d=1?12;12
            law 0 = 1, next 1 = 1/1, next 2 = 0/1, next -1 = 0/1
            text d=1?0;12
            law 0 = 1, next 1 = 0/1, next 2 = 1/1, next -1 = 0/1
            """);
        run("if he opened none, he opens NONE", """
            text 0
            law 0 = 1, next -1 = 1/1, next 1 = 0/1, next 2 = 0/1
            text 12
            law 0 = 1, next -1 = 0/1, opened 1, next -1 = 0/1, opened 2
            # none is left to look at
            next -1 = 1/1, opened -1, next -1 = MIN
            doors 2, opened 1, next -1 = 1/1, opened -1, next -1 = 1/1
            """);
        run("Without a text: 12, if d is not x; else 0", """
            opens 10 = 12, opens 11 = 0, opens 12 = 12, opens 22 = 0, next -1 = 0/1
            doors 2, opens 10 = 12, opens 11 = 0, next -1 = 1/2, next 1 = 1/2
            mend 0 1 3, opens 10 = 12, opens 11 = 0
            text 0
            law 0 = 1, opens 10 = 12
            text 5
            law 3 = 1, opens 10 = 5, opens 11 = 5
            """);
        run("SEEN: the cow is behind an open DOOR: nobody wins it", """
            text 12
            law 0 = 1, worth 0 0 = 1/3, worth 1 0 = 1/3, worth 2 0 = 1/3, theBest = 1/3
            opened 1, likely 1 = 1/3, win 1 = 2, led 0 = 0, led 1 = 1, led 2 = 0
            mend 1 0 12, worth 0 0 = 1/14, worth 1 0 = 1/14, worth 1 1 = 1/14, worth 0 1 = 6/7, theBest = 6/7, theBest 2 = 1
            """);
    }
}
