/** Runs that others begin with, so that what a refused call might change is there to be seen. */
final class States {
    /**
     * Four doors, 0 and 1 open, 3 CHOSEN, two ACTS, HOST 1 of four with laws, A 2, a tape of two bytes, six changes to
     * undo and one to do again, an image, three bodies, and on the shelves a body, bytes, longs, booleans, nothing, nothing.
     */
    static final String RICH = """
        doors 4 = 3
        mend 0 0 3 = 1, mend 1 0 5 = 1, mend 2 0 2 = 1, mend 3 0 7 = 1, mend 0 2 2 = 1
        text d=x?2;4+d*2
        law 0 = 1
        text (x=c)?9-d;3
        law 1 = 1
        text 6
        law 2 = 1
        mend 0 1 1 = 0, mend 0 1 2 = 1, undo = 6
        code 1 2 = 0, code 3 4 = 0
        win 3 = 0, choose 1 = 0, opened 0 = 1, win 0 = 2, win 1 = 1
        choose 2 = 1, opened 0 = 1, image = 1, choose 3 = 2, opened 1 = 2
        body 0 = 0, body 4 = 1, body 7 = 2
        act 2 3 5
        keep 0 1 = 1
        bytes 1 2 0 1 2 -1 3
        row 2 3 2 = 1, put 2 1 -7 = 1
        row 3 4 2 = 1, put 3 0 1 = 1
        text d+
        """;

    /** RICH, and then all WEIGHTS are 0. */
    static final String NIL = RICH + """
        mend 0 0 0 = 3, mend 1 0 0 = 5, mend 2 0 0 = 2, mend 3 0 0 = 7
        """;

    /** RICH, and then a third ACT. */
    static final String THREE_ACTS = RICH + """
        opened -1 = 3
        """;

    /** Three doors, CHOSEN 0; hosts: 1 opens others than x by halves, 2 only if x is c, 3 each door by halves. */
    static final String FOUR_HOSTS = """
        text !(d=x)*6
        law 1 = 1
        text (x=c)*!(d=x)*12
        law 2 = 1
        text 6
        law 3 = 1
        """;

    private States() {}
}
