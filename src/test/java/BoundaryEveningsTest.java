/** The Terms' sentences on an evening as it is told, and from the beginning: each boundary case has a run of its own. */
public final class BoundaryEveningsTest {
    private static final String NIL = States.NIL;
    /** He opens either of two with one half, if he may: the well known third and two thirds. */
    private static final String FAIR = """
        text d=x?0;x=c&d=1?6;12
        law 0 = 1
        """;

    public static void main(String[] args) {
        told();
        howLikely();
        bestAndGain();
        next();
        fromTheBeginning();
        changing();
        theBest();
        Run.end();
    }

    private static void run(String sentence, String text) {
        Run.run(sentence, text);
    }

    private static void told() {
        run("ACTS (3 at most)", """
            opened -1 = 1, opened 2 = 2, opened -1 = 3, opened -1 = FULL, opened 1 = FULL, count 2 = 3, of 2 10 = -1, of 3 10 = VOID
            """);
        run("ACTS (3 at most): they are room for each one", """
            doors 5, opened 1 = 1, opened 2 = 2, opened 3 = 3, opened 4 = FULL, count 1 = 3, anew = 3, opened 4 = 1
            """);
        run("which DOOR he opened (not CHOSEN, not open), or NONE", """
            opened 0 = BAD, opened 1 = 1, opened 1 = BAD, opened 0 = BAD, opened -1 = 2, opened -2 = BAD, opened 3 = BAD
            of 0 10 = 1, of 1 10 = -1, count 1 = 1, count 2 = 2
            """);
        run("ahead of each the guest may have CHOSEN anew (a DOOR that is not open)", """
            choose 1 = 0, opened 0 = 1, choose 0 = STATE, choose 2 = 1, opened 2 = BAD, opened 1 = 2, choose 1 = STATE
            of 0 11 = 1, of 1 11 = 2, of 0 22 = 2, choose 2 = 2
            """);
    }

    private static void howLikely() {
        run("HOW LIKELY the cow is behind a DOOR, by WEIGHTS and by all ACTS told of the HOST", FAIR + """
            likely 0 = 1/3, opened 1, likely 0 = 1/3, likely 1 = 0/1, likely 2 = 2/3
            mend 2 0 3, likely 0 = 1/7, likely 2 = 6/7, opened 2, likely 0 = 1/1
            # of that HOST: another one opens what he will
            mend 0 1 1
            text 12
            law 1 = 1, likely 0 = 1/5, likely 1 = 1/5, likely 2 = 3/5
            """);
        run("as they were CHOSEN then", FAIR + """
            opened 1, choose 2, likely 0 = 1/3, likely 2 = 2/3
            opened -1, likely 0 = 1/1, likely 2 = 0/1
            # by halves in the first act alone
            anew, choose 0
            text d=x?0;x=c&a=0?6;12
            law 0 = 1, opened 1, likely 2 = 2/3, choose 2, opened -1, likely 0 = 1/1, likely 2 = 0/1
            """);
        run("a fraction in lowest terms", """
            mend 0 0 6, mend 1 0 6, mend 2 0 12, likely 0 = 1/4, likely 2 = 1/2
            mend 0 0 0, likely 0 = 0/1, mend 1 0 0, likely 2 = 1/1
            doors 5
            text 6
            law 0 = 1, mend 0 0 12, mend 1 0 12, mend 2 0 12, mend 3 0 12, mend 4 0 12
            opened -1, opened -1, opened -1, likely 0 = 1/5, likely 4 = 1/5, gain = 0/1
            """);
        run("a fraction: the farthest numbers", """
            doors 5, mend 0 0 12
            text x=0?11;1
            law 0 = 1, opened -1, opened -1, opened -1
            # 12 of 1 in 12 ^ 12 against four of 11 ^ 12
            likely 0 = 3/3138428376724, likely 1 = 3138428376721/12553713506896
            """);
        run("NOT: by him it cannot have come so", """
            opened -1, likely 0 = NOT, best = NOT, gain = NOT, next 1 = NOT, next -1 = NOT
            # another may have done so
            text 6
            law 1 = 1, mend 0 1 1, likely 0 = 1/3, best = 0, next 1 = 1/2
            """);
        run("NOT: he opens 2 only if the cow is behind 1", """
            opened 2, likely 1 = 1/1, mend 1 0 0, likely 1 = NOT, likely 0 = NOT, best = NOT, gain = NOT, next 1 = NOT
            mend 1 0 1, likely 1 = 1/1
            """);
        run("NOT: (or all WEIGHTS are 0)", NIL + """
            likely 0 = NOT, likely 3 = NOT, best = NOT, gain = NOT, next 2 = NOT, next -1 = NOT
            anew, likely 0 = NOT, best = NOT, mend 0 0 1, likely 0 = 1/1, best = 0
            """);
    }

    private static void bestAndGain() {
        run("BEST: the DOOR that is not open with the greatest", """
            text 12
            law 0 = 1, mend 1 0 12, mend 2 0 2, best = 1, opened 1, best = 2, choose 2, best = 2, opened 0, best = 2
            """);
        run("(of like ones the CHOSEN one, then the least)", """
            doors 4, choose 3, best = 3, choose 1, best = 1, mend 1 0 0, best = 0
            text 12
            law 0 = 1, opened 0, best = 2, choose 3, best = 3
            mend 2 0 0, mend 3 0 0, best = 3, choose 1, best = 1
            """);
        run("GAIN of changing to BEST: as a fraction", FAIR + """
            gain = 0/1, opened 1, gain = 1/3, choose 2, gain = 0/1
            """);
        run("GAIN: all there is, or nothing", """
            opened 2, gain = 1/1, choose 1, gain = 0/1
            # the cow is behind an open door: nothing is to be gained
            text 12
            law 0 = 1, anew, choose 0, mend 0 0 0, mend 2 0 0, opened 1, likely 1 = 1/1, best = 0, gain = 0/1
            """);
    }

    private static void next() {
        run("NEXT: how likely his next ACT opens a told DOOR, or NONE: a fraction (likewise)", """
            mend 1 0 3, next 1 = 2/5, next 2 = 3/5, next -1 = 0/1
            mend 2 0 0, next 1 = 1/4, next 2 = 3/4, mend 0 0 0, next 1 = 0/1, next 2 = 1/1
            """);
        run("NEXT: it goes on from all that is told", FAIR + """
            opened 1, choose 2, next 0 = 2/3, next -1 = 1/3, opened 0, likely 2 = 1/1, next -1 = 1/1
            """);
        run("NEXT: the parts of all that he may do make 1", """
            doors 5
            text 1+(d*7+x*5+c*3+a)%11
            law 0 = 1
            # twelfths of doors 1 to 4: 8, 4, 11, 7 and 5 on by x (mod 11)
            mend 1 0 0, mend 2 0 0, mend 3 0 0, mend 4 0 0
            next 1 = 2/3, next 2 = 1/9, next 3 = 11/54, next 4 = 7/648, next -1 = 5/648
            """);
    }

    private static void fromTheBeginning() {
        run("A ACTS (1 .. 3; 1 at first) to come", """
            of 0 21 = 1, mend 0 2 0 = BAD, mend 0 2 4 = BAD, mend 0 2 -1 = BAD
            mend 1 0 2, mend 2 0 5
            text a=2?12;0
            law 0 = 1, worth 1 0 = 1/4, mend 0 2 2 = 1, worth 1 0 = 1/4, mend 0 2 3 = 2, worth 1 0 = 5/8
            """);
        run("none told", """
            text a=0&r=0?12;0
            law 0 = 1, mend 1 0 2, worth 1 0 = 1/4, theBest = 1/2
            opened 1, choose 2, opened -1, worth 1 0 = 1/4, worth 1 1 = 1/4, theBest = 1/2, drawn 1 11 0 = 1
            # what the evening's CHOSEN one is does not count either, but for the draws
            anew, choose 1, worth 1 0 = 1/4, theBest = 1/2, theBest 2 = 1
            """);
        run("worth of STAYING: how likely the CHOSEN one has the cow at the end (SEEN: lost)", """
            text 12
            law 0 = 1, mend 0 2 3, mend 0 0 2, mend 1 0 4, worth 0 0 = 2/7, worth 0 1 = 4/7, worth 0 2 = 1/7
            mend 2 0 0, worth 0 2 = 0/1, mend 0 0 0, worth 0 1 = 1/1
            """);
        run("of a CHOSEN DOOR: of each way alike", """
            worth 0 3 = MIN, worth 1 3 = MIN, worth 2 3 = MIN, worth 0 -1 = MIN, worth 3 0 = MIN, worth -1 0 = MIN
            worth 0 2 = 1/3, worth 1 2 = 2/3, worth 2 2 = 2/3
            """);
    }

    private static void changing() {
        run("of CHANGING at the end: to the least DOOR that is neither open nor that", """
            text 0
            law 0 = 1, mend 0 0 2, mend 1 0 3, mend 2 0 7
            worth 1 0 = 1/4, worth 1 1 = 1/6, worth 1 2 = 1/6
            text d=0?12;0
            law 0 = 1, worth 1 0 = 1/4, worth 1 1 = 7/12, worth 1 2 = 1/4
            # at the end, not behind the first act
            mend 0 2 2, worth 1 0 = 1/4, worth 1 1 = 7/12, worth 1 2 = 1/4
            """);
        run("(if there is one; else it stays)", """
            doors 2, mend 0 0 3
            text 12
            law 0 = 1, worth 1 0 = 3/4, worth 1 1 = 1/4, worth 2 0 = 3/4, mend 0 2 3, worth 1 0 = 3/4, worth 2 1 = 1/4
            doors 3, mend 0 0 3, mend 0 2 1, worth 1 0 = 1/5, mend 0 2 2, worth 1 0 = 3/5, worth 1 1 = 1/5
            """);
        run("of CHANGING each time, behind each ACT, likewise", """
            mend 1 0 3, mend 2 0 5
            text 0
            law 0 = 1, worth 2 2 = 1/9, mend 0 2 2, worth 2 2 = 1/3, mend 0 2 3, worth 2 2 = 1/9, worth 1 2 = 1/9
            # the one first CHOSEN may be opened once it is left
            text a=1?12;0
            law 0 = 1, mend 0 2 2, worth 2 2 = 5/9, worth 1 2 = 1/3
            text d=2?12;0
            law 0 = 1, worth 2 2 = 1/3, worth 2 0 = 1/9
            """);
    }

    private static void theBest() {
        run("THE BEST: CHOSEN anew behind each ACT so that it is most likely won", """
            theBest = 2/3, mend 0 0 3, theBest = 4/5, mend 0 2 2, theBest = 1/1, mend 0 2 3, theBest = 1/1
            text 0
            law 0 = 1, theBest = 3/5
            text 12
            law 0 = 1, theBest = 3/5
            """);
        run("(the DOOR itself may be CHOSEN as is best, too)", """
            text x=0?12;0
            law 0 = 1, theBest = 2/3, theBest 2 = 0
            text x=1?12;0
            law 0 = 1, theBest = 2/3, theBest 2 = 1
            text x=2?12;0
            law 0 = 1, theBest = 2/3, theBest 2 = 0
            text c=2&x=1?12;0
            law 0 = 1, theBest = 2/3, theBest 2 = 2
            text d=x?12;0
            law 0 = 1, theBest = 1/3, theBest 2 = 0, mend 1 0 2, theBest = 1/2, theBest 2 = 1
            """);
        run("THE BEST: two doors, one of them heavy, and one alone", """
            doors 2, theBest = 1/1, theBest 2 = 0
            text 6
            law 0 = 1, theBest = 1/2, theBest 2 = 0, mend 1 0 12, theBest = 12/13, theBest 2 = 1, mend 0 0 0, theBest = 1/1, theBest 2 = 1
            mend 1 0 0, theBest = NOT, theBest 2 = NOT
            """);
        run("fractions: what is as little as can be counts", """
            text 1
            law 0 = 1, worth 1 0 = 1/3, worth 2 0 = 1/3, theBest = 1/3
            doors 2
            text 11
            law 0 = 1, worth 1 0 = 1/2, worth 1 1 = 1/2, theBest = 1/2, mend 0 2 3, worth 2 0 = 1/2, theBest = 1/2
            """);
        run("fractions: where the cow cannot be, nothing is won", """
            mend 1 0 0
            text d=2?12;0
            law 0 = 1, worth 1 0 = 0/1, worth 2 0 = 0/1, worth 0 1 = 0/1, worth 1 2 = 1/2, theBest = 1/2
            mend 0 0 0, worth 0 2 = 1/1, worth 0 0 = 0/1, worth 1 0 = 0/1, worth 2 1 = 0/1, theBest = 1/1, theBest 2 = 2
            """);
        run("fractions: they are as all is now", """
            theBest = 2/3, hardest 15 = 2/3, mend 0 0 3, theBest = 4/5, undo, theBest = 2/3, redo, hardest 1 = 4/5
            bytes 0 1 1 4
            weights 0 0 3 = 3, theBest = 5/6, hardest 2 = 5/6, theBest 2 = 0
            text 0
            law 0 = 1, theBest = 2/3, hardest 2 = 5/6, mend 0 1 1, theBest = 5/6, doors 4, theBest = 1/2, mend 0 2 2, theBest = 3/4
            mend 0 2 3, theBest = 1/1, choose 1, opened 0, theBest = 1/1
            """);
        run("fractions: NOT, if all WEIGHTS are 0", NIL + """
            worth 0 0 = NOT, worth 1 1 = NOT, worth 2 3 = NOT, theBest = NOT, theBest 2 = NOT
            mend 2 0 1, worth 0 2 = 1/1, worth 0 3 = 0/1, theBest = 1/1
            """);
    }
}
