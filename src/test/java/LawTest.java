import java.util.Random;

/** Faults and values of random texts, against PlainLaw; and every short text over all signs. */
public final class LawTest {
    private static final String SIGNS = "d0|&<-*!()?; ";
    private static int wrong = 0;

    public static void main(String[] args) {
        shortTexts("", 4);
        Random r = new Random(120);
        for (int k = 0; k < 20000; k++) compare(LawTexts.random(r), r);
        System.out.println(wrong == 0 ? "all laws are as due" : wrong + " laws are not as due");
        if (wrong != 0) System.exit(1);
    }

    private static void shortTexts(String text, int more) {
        fault(new ChangeDoors(), text);
        if (more == 0) return;
        for (char c : SIGNS.toCharArray()) shortTexts(text + c, more - 1);
    }

    private static boolean fault(ChangeDoors x, String text) {
        for (char c : text.toCharArray()) x.feed(c);
        int fault = PlainLaw.fault(text);
        due("law " + text, x.law(0), fault < 0 ? 1 : -100 - fault);
        return fault < 0;
    }

    private static void compare(String text, Random r) {
        ChangeDoors x = new ChangeDoors();
        int doors = 2 + r.nextInt(4), chosen = r.nextInt(doors), acts = r.nextInt(4);
        x.doors(doors);
        x.choose(chosen);
        for (int k = 0; k < acts; k++) if (x.opened(r.nextInt(doors)) < 0) x.opened(-1);
        if (!fault(x, text)) return;
        for (int d = 0; d < doors; d++) {
            if (d == chosen || x.of(d, 1) == 1) continue;
            for (int cow = 0; cow < doors; cow++) {
                int want = new PlainLaw(text).twelfths(d, cow, chosen, doors, x.count(1), x.count(2));
                due(text + " of " + d + ", " + cow, x.opens(10 * d + cow), want);
                due(text + " of " + d + ", " + cow + " again", x.opens(10 * d + cow), want);
            }
        }
    }

    private static void due(String call, long got, long want) {
        if (got == want) return;
        wrong++;
        System.out.println(call + " answered " + got + ", due is " + want);
    }
}
