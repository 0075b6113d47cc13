import java.lang.reflect.Method;
import java.util.Arrays;
import java.util.HashMap;
import java.util.Map;
import java.util.Random;

/** Random runs of calls on the class and on PlainDoors: every answer must be the same. */
public final class AgainstPlainTest {
    private static final int RUNS = Integer.getInteger("runs", 400);
    private static final int CALLS = 512;
    private static final long SEED = Long.getLong("seed", 20261118L);
    private static final String[] NAMES = {
        "doors", "weights", "mend", "of", "feed", "law", "opens", "choose", "opened", "anew", "likely", "best", "gain",
        "next", "worth", "theBest", "sure", "hardest", "which", "judge", "apart", "drawn", "code", "partner", "win",
        "led", "image", "back", "undo", "redo", "body", "act", "trace", "keep", "row", "put", "element", "shift",
        "taken", "count"};
    /** How often a call comes; those not named here: 10 times. Each run turns some up and some down. */
    private static final Map<String, Integer> OFTEN = new HashMap<>();

    static {
        OFTEN.put("doors", 2);
        OFTEN.put("mend", 40);
        OFTEN.put("opened", 30);
        OFTEN.put("choose", 25);
        OFTEN.put("feed", 2);
        OFTEN.put("put", 40);
        OFTEN.put("row", 8);
        OFTEN.put("theBest", 2);
        OFTEN.put("hardest", 2);
        OFTEN.put("sure", 4);
        OFTEN.put("anew", 4);
        OFTEN.put("win", 5);
        OFTEN.put("likely", 20);
        OFTEN.put("next", 20);
    }

    private final Random r;
    private final ChangeDoors real = new ChangeDoors();
    private final PlainDoors plain = new PlainDoors();
    private final StringBuilder told = new StringBuilder();
    private final boolean heavy;
    private int calls = 0;
    static final Map<String, Integer> GOOD = new HashMap<>();

    private AgainstPlainTest(long seed) {
        r = new Random(seed);
        heavy = r.nextInt(4) == 0;
    }

    public static void main(String[] args) throws Exception {
        Map<String, Method> reals = methods(ChangeDoors.class), plains = methods(PlainDoors.class);
        for (int run = 0; run < RUNS; run++) {
            AgainstPlainTest test = new AgainstPlainTest(SEED * 1000003 + run);
            if (!test.isAlike(reals, plains)) {
                System.out.println("run " + run + ":\n" + test.told);
                System.exit(1);
            }
        }
        for (String name : NAMES) {
            if (GOOD.getOrDefault(name, 0) < RUNS / 10) {
                System.out.println(name + " was answered as said only " + GOOD.getOrDefault(name, 0) + " times");
                System.exit(1);
            }
        }
        System.out.println(RUNS + " random runs are alike");
    }

    private static Map<String, Method> methods(Class<?> of) {
        Map<String, Method> all = new HashMap<>();
        for (Method m : of.getDeclaredMethods()) {
            if (java.lang.reflect.Modifier.isPublic(m.getModifiers())) all.put(m.getName(), m);
        }
        return all;
    }

    private boolean isAlike(Map<String, Method> reals, Map<String, Method> plains) throws Exception {
        int sum = 0;
        int[] often = new int[NAMES.length];
        for (int k = 0; k < NAMES.length; k++) {
            often[k] = OFTEN.getOrDefault(NAMES[k], 10) * new int[] {1, 5, 5, 5, 20}[r.nextInt(5)];
            sum += often[k];
        }
        if (heavy && !isCallAlike(reals.get("doors"), plains.get("doors"), a(5))) return false;
        while (calls < CALLS) {
            int at = r.nextInt(sum);
            String name = null;
            for (int k = 0; k < NAMES.length && name == null; k++) {
                at -= often[k];
                if (at < 0) name = NAMES[k];
            }
            if (name.equals("law") && !isTapeAlike(reals, plains)) return false;
            if (name.equals("which") && r.nextInt(2) == 0 && !isBookAlike(reals, plains)) return false;
            if (name.equals("doors") && !heavy && r.nextInt(3) > 0) continue;
            if (!isCallAlike(reals.get(name), plains.get(name), arguments(name))) return false;
        }
        return true;
    }

    private boolean isTapeAlike(Map<String, Method> reals, Map<String, Method> plains) throws Exception {
        String text = LawTexts.random(r);
        if (r.nextInt(20) == 0) text = "d+".repeat(60) + "d";
        for (char c : text.toCharArray()) {
            if (!isCallAlike(reals.get("feed"), plains.get("feed"), new Object[] {(int) c})) return false;
        }
        return true;
    }

    /** A row of evenings that may have been, so that which() and judge() have something to tell. */
    private boolean isBookAlike(Map<String, Method> reals, Map<String, Method> plains) throws Exception {
        int shelf = r.nextInt(6), doors = plain.of(0, 23), threes = 1 + r.nextInt(5);
        if (!isCallAlike(reals.get("row"), plains.get("row"), a(shelf, 0, 3 * threes))) return false;
        for (int k = 0; k < threes; k++) {
            int chosen = r.nextInt(doors), opened = r.nextInt(doors), cow = r.nextInt(doors);
            long[] three = {chosen, opened == chosen ? -1 : opened, cow};
            for (int i = 0; i < 3; i++) {
                Object[] arguments = {shelf, 3 * k + i, three[i]};
                if (!isCallAlike(reals.get("put"), plains.get("put"), arguments)) return false;
            }
        }
        int host = r.nextInt(4);
        return isCallAlike(reals.get("judge"), plains.get("judge"), a(shelf, within(1, 15)))
            && isCallAlike(reals.get("which"), plains.get("which"), a(shelf, 150 + host, 0))
            && isCallAlike(reals.get("which"), plains.get("which"), a(shelf, 150 + host, 1));
    }

    private boolean isCallAlike(Method real, Method like, Object[] arguments) throws Exception {
        if (calls >= CALLS) return true;
        calls++;
        long got = ((Number) real.invoke(this.real, arguments)).longValue();
        long due = ((Number) like.invoke(plain, arguments)).longValue();
        told.append(real.getName()).append(Arrays.toString(arguments)).append(" = ").append(got);
        if (got >= 0) GOOD.merge(real.getName(), 1, Integer::sum);
        if (got != due) told.append(", due is ").append(due);
        told.append('\n');
        return got == due;
    }

    private int within(int low, int high) {
        if (r.nextInt(40) == 0) {
            int[] odd = {-1, -2, high + 1, low - 1, Integer.MAX_VALUE, Integer.MIN_VALUE, 100, -10, -100};
            return odd[r.nextInt(odd.length)];
        }
        return low + r.nextInt(high - low + 1);
    }

    private int door() {
        return within(0, plain.of(0, 23) - 1);
    }

    private int part() {
        return within(0, 1);
    }

    private int shelf() {
        return within(0, 5);
    }

    private int place() {
        return within(0, r.nextInt(3) == 0 ? 60 : 6);
    }

    private Object[] arguments(String name) {
        switch (name) {
            case "doors": return a(heavy ? within(2, 5) : within(2, 4));
            case "weights": return a(shelf(), place(), within(1, 5));
            case "mend": return mended();
            case "of": return r.nextInt(3) == 0 ? a(0, within(20, 23)) : r.nextInt(2) == 0 ? a(door(), within(0, 2)) : a(within(0, 2), within(10, 11));
            case "feed": return a(within(0, 255));
            case "law": return a(within(0, 3));
            case "opens": return r.nextInt(30) == 0 ? a(within(-100, 100)) : a(10 * door() + door());
            case "choose": case "win": return a(door());
            case "opened": return a(r.nextInt(4) == 0 ? -1 : door());
            case "likely": return a(door(), part());
            case "gain": return a(part());
            case "next": return a(r.nextInt(4) == 0 ? -1 : door(), part());
            case "worth": return a(within(0, 2), door(), part());
            case "theBest": return a(within(0, 2));
            case "sure": return a(within(1, 15), door(), within(0, 2));
            case "hardest": return a(within(1, 15), within(0, 2));
            case "which": return a(shelf(), which(), part());
            case "judge": return a(shelf(), within(1, 15));
            case "apart": return a(r.nextInt(20) == 0 ? within(-100, 100) : 10 * within(0, 3) + within(0, 3), cox());
            case "drawn": return a(r.nextInt(), 10 * within(1, 50) + within(0, 2), within(0, 1));
            case "code": return a(door(), within(0, 4));
            case "partner": return a(within(0, 5), part());
            case "led": return a(within(0, 2));
            case "body": return a(within(0, 7));
            case "act": return a(within(0, Math.max(0, plain.count(5) - 1)), within(0, 3), r.nextInt(3) == 0 ? r.nextInt() : within(-9, 9));
            case "trace": return a(within(0, Math.max(0, plain.count(6))));
            case "keep": return a(shelf(), within(-1, plain.count(5)));
            case "row": return a(shelf(), r.nextInt(2) == 0 ? 0 : within(0, 4), r.nextInt(2) == 0 ? within(0, 13) : within(-1, 61));
            case "put": return new Object[] {shelf(), place(), r.nextInt(4) == 0 ? r.nextLong() : (long) within(-1, r.nextInt(3) == 0 ? 13 : 4)};
            case "element": return a(shelf(), place());
            case "shift": return a(shelf(), place(), shelf(), place(), within(-1, 8));
            case "taken": return a(shelf(), within(0, 7));
            case "count": return a(within(0, 6));
            default: return a();
        }
    }

    private Object[] mended() {
        int what = within(0, 2);
        if (what == 1) return a(within(0, 0), 1, within(0, 3));
        if (what == 2) return a(within(0, 0), 2, heavy ? within(1, 3) : within(1, 2));
        return a(door(), what, r.nextInt(4) == 0 ? 0 : within(0, 12));
    }

    private int which() {
        int hosts = within(1, 15);
        if (r.nextInt(10) == 0 || hosts < 1 || hosts > 15) return 10 * hosts + within(0, 4);
        int one = r.nextInt(4);
        while ((hosts & 1 << one) == 0) one = r.nextInt(4);
        return 10 * hosts + one;
    }

    private int cox() {
        return r.nextInt(20) == 0 ? within(-200, 600) : 100 * door() + 10 * door() + door();
    }

    private static Object[] a(int... of) {
        Object[] all = new Object[of.length];
        for (int k = 0; k < of.length; k++) all[k] = of[k];
        return all;
    }
}
