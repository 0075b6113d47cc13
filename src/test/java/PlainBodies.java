import java.util.ArrayList;
import java.util.List;

/** The doors of part 4 as true Java classes: the language itself says which body runs. */
final class PlainBodies {
    static final List<Integer> ran = new ArrayList<>();

    interface Hides {
        int n();

        default int hides(int x) { ran.add(1); return x + n(); }
    }

    interface Tells {
        int opens(int x);

        int asks(int x);

        default int tells(int x) { ran.add(2); return opens(x) - asks(1); }
    }

    static class Door implements Hides, Tells {
        int n;

        public int n() { return n; }

        public int opens(int x) { ran.add(10); return hides(x) * 2; }

        public int asks(int x) { ran.add(11); return x ^ n; }
    }

    static class Shut extends Door {
        public int hides(int x) { ran.add(20); return super.hides(x) + 3; }
    }

    static class Open extends Door {
        public int opens(int x) { ran.add(30); return -super.opens(x); }
    }

    static class Empty extends Open {
        public int asks(int x) { ran.add(40); return super.asks(x) * 3; }

        public int opens(int x) { ran.add(41); return super.opens(x + 1); }
    }

    static class Chosen extends Shut {
        public int asks(int x) { ran.add(50); return super.asks(x) - hides(2); }
    }

    static class Seen extends Empty {
        public int tells(int x) { ran.add(60); return super.tells(x) ^ 5; }
    }

    static class Coded extends Door {
        public int hides(int x) { ran.add(70); return super.hides(x) * 2; }
    }

    static class Left extends Chosen {
        public int opens(int x) { ran.add(80); return super.opens(x) + asks(2); }

        public int tells(int x) { ran.add(81); return super.tells(x) - 1; }
    }

    static final Class<?>[] KINDS = {Door.class, Shut.class, Open.class, Empty.class, Chosen.class, Seen.class, Coded.class, Left.class};

    static Door make(int kind, int n) {
        Door[] fresh = {new Door(), new Shut(), new Open(), new Empty(), new Chosen(), new Seen(), new Coded(), new Left()};
        fresh[kind].n = n;
        return fresh[kind];
    }

    static int kindOf(Door d) {
        for (int k = 0; k < KINDS.length; k++) if (d.getClass() == KINDS[k]) return k;
        return -1;
    }

    static int perform(Door d, int act, int x) {
        switch (act) {
            case 0: return d.hides(x);
            case 1: return d.opens(x);
            case 2: return d.asks(x);
            default: return d.tells(x);
        }
    }
}
