import java.util.Random;

/** Five doors, three acts and laws that leave much open: the widest ways there are, against PlainDoors. */
public final class WorthTest {
    private static final int SETTINGS = Integer.getInteger("settings", 25);
    private static int wrong = 0;

    public static void main(String[] args) {
        Random r = new Random(Long.getLong("seed", 5L));
        for (int k = 0; k < SETTINGS; k++) compare(r, 5, 3);
        for (int k = 0; k < 4 * SETTINGS; k++) compare(r, 2 + r.nextInt(3), 1 + r.nextInt(3));
        System.out.println(wrong == 0 ? "all worths are as due" : wrong + " worths are not as due");
        if (wrong != 0) System.exit(1);
    }

    private static String law(Random r) {
        String[] open = {"6", "1+(d*7+x*5+c*3+a)%11", "3+(d+x+r)%7", "d=x?2;5+a", "x=c?4+d;9-r*2", "(d*x+c*n+a*r)%12"};
        return r.nextInt(3) > 0 ? open[r.nextInt(open.length)] : LawTexts.right(r);
    }

    private static void compare(Random r, int doors, int acts) {
        ChangeDoors real = new ChangeDoors();
        PlainDoors plain = new PlainDoors();
        due("doors", real.doors(doors), plain.doors(doors));
        due("mend", real.mend(0, 2, acts), plain.mend(0, 2, acts));
        for (int d = 0; d < doors; d++) {
            int w = r.nextInt(13);
            due("mend", real.mend(d, 0, w), plain.mend(d, 0, w));
        }
        for (int h = 0; h < 2; h++) {
            for (char c : law(r).toCharArray()) due("feed", real.feed(c), plain.feed(c));
            due("law", real.law(h), plain.law(h));
        }
        for (int part = 0; part < 3; part++) {
            due("theBest", real.theBest(part), plain.theBest(part));
            due("hardest", real.hardest(3, part), plain.hardest(3, part));
            for (int d = 0; d < doors; d++) {
                due("sure", real.sure(3, d, part), plain.sure(3, d, part));
                for (int way = 0; way < 3; way++) due("worth", real.worth(way, d, part), plain.worth(way, d, part));
            }
        }
    }

    private static void due(String call, long got, long want) {
        if (got == want) return;
        wrong++;
        System.out.println(call + " answered " + got + ", due is " + want);
    }
}
