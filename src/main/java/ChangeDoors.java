import java.util.Arrays;

/**
 * Shall one change doors: doors with weights, a cow behind one, a guest who chooses, hosts who open
 * others by laws; how likely the cow is behind which door, and what staying and changing are worth.
 */
public final class ChangeDoors {
    public static final int BAD = -1, NOT = -2, FULL = -3, STATE = -5, VOID = -2000000000;

    private static final int MOST_DOORS = 5;
    private static final int MOST_WEIGHT = 12;
    private static final int MOST_HOSTS = 4;
    private static final int ALL_HOSTS = 15;
    private static final int MOST_ACTS = 3;
    private static final int MOST_CODES = 4;
    private static final int MOST_EVENINGS = 4;
    private static final int MOST_DRAWN = 50;
    private static final int NONE = -1;
    private static final int TWELVE = 12;

    private static final int WEIGHT = 0, HOST = 1, ACTS = 2;
    private static final int STAYING = 0, CHANGING_LAST = 1, CHANGING_EACH = 2, AS_IS_BEST = 3;
    private static final int LOST = 0, WON = 1, SEEN = 2;

    private static final int NOTHING_THERE = -11, OTHER_KIND = -12, NO_PLACE = -13, NO_SIZE = -14;

    /** The least long there is: what calls that give longs answer to what is not as said. */
    private static final long REFUSED = 0x8000000000000000L;

    private final Stage stage;
    private final Evening evening;
    private final Evening kept;
    private boolean imageKept;
    private final Changes changes;
    private final Tape tape;
    private final Chances chances;
    private final Draws draws;
    private final Bodies bodies;
    private final Shelves shelves;

    public ChangeDoors() {
        stage = new Stage();
        evening = new Evening();
        kept = new Evening();
        imageKept = false;
        changes = new Changes();
        tape = new Tape();
        chances = new Chances(stage);
        draws = new Draws(stage, chances);
        bodies = new Bodies();
        shelves = new Shelves();
    }

    // ---- doors, hosts

    public int doors(int n) {
        if (n < 2 || n > MOST_DOORS) return BAD;
        int were = stage.doors;
        stage.lay(n);
        chances.layLaws();
        evening.beginWithFirstDoor();
        changes.clear();
        imageKept = false;
        return were;
    }

    public int weights(int shelf, int i, int n) {
        if (!shelves.has(shelf) || n < 1 || n > MOST_DOORS) return BAD;
        if (shelves.isEmpty(shelf)) return 0;
        if (!shelves.isBytes(shelf)) return OTHER_KIND;
        int came = 0;
        for (int door = 0; door < n; door++) {
            if (!stage.has(door) || !shelves.hasPlaces(shelf, i, door + 1)) break;
            int weight = (int) shelves.at(shelf, i + door);
            if (!isWeight(weight)) break;
            stage.weigh(door, weight);
            came++;
        }
        return came;
    }

    public int mend(int number, int what, int v) {
        if (!mayMend(number, what, v)) return BAD;
        int was = stage.told(number, what);
        if (was != v) {
            changes.add(number, what, was, v);
            stage.tell(number, what, v);
        }
        return was;
    }

    private boolean mayMend(int number, int what, int v) {
        if (what == WEIGHT) return stage.has(number) && isWeight(v);
        if (number != 0) return false;
        if (what == HOST) return v >= 0 && v < MOST_HOSTS;
        return what == ACTS && v >= 1 && v <= MOST_ACTS;
    }

    private static boolean isWeight(int v) {
        return v >= 0 && v <= MOST_WEIGHT;
    }

    public int of(int number, int what) {
        if (what >= 0 && what <= 2) return stage.has(number) ? ofDoor(number, what) : VOID;
        if (what == 10 || what == 11) {
            if (number < 0 || number >= evening.told) return VOID;
            return what == 10 ? evening.openedIn(number) : evening.chosenIn(number);
        }
        return number == 0 ? ofAll(what) : VOID;
    }

    private int ofDoor(int door, int what) {
        if (what == 0) return stage.told(door, WEIGHT);
        if (what == 1) return evening.isOpen(door) ? 1 : 0;
        return stage.saidOf(door);
    }

    private int ofAll(int what) {
        switch (what) {
            case 20: return stage.host;
            case 21: return stage.acts;
            case 22: return evening.chosen;
            case 23: return stage.doors;
            default: return VOID;
        }
    }

    public int feed(int letter) {
        if (letter < 0 || letter > 255) return BAD;
        if (tape.isFull()) return FULL;
        return tape.append(letter);
    }

    public int law(int host) {
        if (host < 0 || host >= MOST_HOSTS) return BAD;
        int fault = tape.read();
        if (fault < 0) chances.takeLaw(host, tape);
        tape.clear();
        return fault < 0 ? 1 : -100 - fault;
    }

    public int opens(int dx) {
        int door = dx / 10;
        int cow = dx % 10;
        if (!stage.has(door) || !stage.has(cow)) return BAD;
        if (door == evening.chosen || evening.isOpen(door)) return STATE;
        return chances.twelfths(evening.told, evening.openDoors(), evening.chosen, door, cow);
    }

    // ---- an evening as told

    public int choose(int door) {
        if (!stage.has(door)) return BAD;
        if (evening.isOpen(door)) return STATE;
        int was = evening.chosen;
        evening.chosen = door;
        return was;
    }

    public int opened(int door) {
        if (!mayOpen(door)) return BAD;
        if (evening.told >= MOST_ACTS) return FULL;
        return evening.add(door);
    }

    private boolean mayOpen(int door) {
        if (door == NONE) return true;
        return stage.has(door) && door != evening.chosen && !evening.isOpen(door);
    }

    public int anew() {
        int were = evening.told;
        evening.begin();
        return were;
    }

    public long likely(int door, int part) {
        if (!stage.has(door) || !isPart(part)) return REFUSED;
        long all = chances.weighAll(evening);
        return all == 0 ? NOT : lowest(chances.weighed(door), all, part);
    }

    public int best() {
        return chances.weighAll(evening) == 0 ? NOT : chances.likeliest(evening);
    }

    public long gain(int part) {
        if (!isPart(part)) return REFUSED;
        long all = chances.weighAll(evening);
        if (all == 0) return NOT;
        long more = chances.weighed(chances.likeliest(evening)) - chances.weighed(evening.chosen);
        return lowest(more, all, part);
    }

    public long next(int door, int part) {
        if (!isPart(part) || !mayOpen(door) || evening.told >= MOST_ACTS) return REFUSED;
        long all = chances.weighAll(evening);
        if (all == 0) return NOT;
        return lowest(chances.weighNext(evening, door), all * stage.wholeAct(), part);
    }

    private static boolean isPart(int part) {
        return part == 0 || part == 1;
    }

    /** Above (part 0) or below (part 1) the line of a fraction in lowest terms; none is below 0. */
    private static long lowest(long above, long below, int part) {
        long big = below;
        long small = above;
        // two longs have their divisor within some 92 steps
        for (int step = 0; step < 200 && small != 0; step++) {
            long rest = big % small;
            big = small;
            small = rest;
        }
        if (big == 0) return 0;
        return part == 0 ? above / big : below / big;
    }

    // ---- from the beginning

    public long worth(int way, int door, int part) {
        if (way < STAYING || way > CHANGING_EACH || !stage.has(door) || !isPart(part)) return REFUSED;
        if (stage.together() == 0) return NOT;
        return lowest(chances.worthOf(stage.host, way, door), stage.wholeWorth(), part);
    }

    public long theBest(int part) {
        if (!isPart(part) && part != 2) return REFUSED;
        if (stage.together() == 0) return NOT;
        long worth = chances.greatestWorth(stage.host);
        return part == 2 ? chances.firstDoor(stage.host) : lowest(worth, stage.wholeWorth(), part);
    }

    // ---- hosts together

    public long sure(int hosts, int door, int part) {
        if (!areHosts(hosts) || !stage.has(door) || !isPart(part) && part != 2) return REFUSED;
        if (stage.together() == 0) return NOT;
        // staying is worth the same against each of them
        long staying = chances.worthOf(stage.host, STAYING, door);
        long changing = stage.wholeWorth();
        for (int host = 0; host < MOST_HOSTS; host++) {
            if (isIn(hosts, host)) changing = Math.min(changing, chances.worthOf(host, CHANGING_LAST, door));
        }
        if (part == 2) return changing > staying ? 1 : 0;
        return lowest(Math.max(staying, changing), stage.wholeWorth(), part);
    }

    public long hardest(int hosts, int part) {
        if (!areHosts(hosts) || !isPart(part) && part != 2) return REFUSED;
        if (stage.together() == 0) return NOT;
        int hardest = NONE;
        for (int host = 0; host < MOST_HOSTS; host++) {
            if (!isIn(hosts, host)) continue;
            if (hardest == NONE || chances.greatestWorth(host) < chances.greatestWorth(hardest)) hardest = host;
        }
        return part == 2 ? hardest : lowest(chances.greatestWorth(hardest), stage.wholeWorth(), part);
    }

    private static boolean areHosts(int hosts) {
        return hosts >= 1 && hosts <= ALL_HOSTS;
    }

    private static boolean isIn(int bits, int number) {
        return (bits >> number & 1) == 1;
    }

    public long which(int shelf, int hh, int part) {
        int hosts = hh / 10;
        int one = hh % 10;
        if (!shelves.has(shelf) || !areHosts(hosts) || one < 0 || one >= MOST_HOSTS) return REFUSED;
        if (!isIn(hosts, one) || !isPart(part) || !shelves.isBytes(shelf)) return REFUSED;
        if (threesOn(shelf) > MOST_EVENINGS) return REFUSED;
        long all = 0;
        for (int host = 0; host < MOST_HOSTS; host++) {
            if (isIn(hosts, host)) all += shareOfBook(shelf, host);
        }
        // by none of them: 0 by 1
        return all == 0 ? part : lowest(shareOfBook(shelf, one), all, part);
    }

    public int judge(int shelf, int hosts) {
        if (!shelves.has(shelf) || !areHosts(hosts)) return BAD;
        if (shelves.isEmpty(shelf)) return NOTHING_THERE;
        if (!shelves.isBytes(shelf)) return OTHER_KIND;
        int threes = threesOn(shelf);
        for (int three = 0; three < threes; three++) {
            if (!isBySome(shelf, three, hosts)) return three;
        }
        return NOT;
    }

    private boolean isBySome(int shelf, int three, int hosts) {
        for (int host = 0; host < MOST_HOSTS; host++) {
            if (isIn(hosts, host) && shareOfThree(shelf, three, host) > 0) return true;
        }
        return false;
    }

    /** How many threes a row has; one whose end lacks is one, too. */
    private int threesOn(int shelf) {
        return (shelves.lengthOf(shelf) + 2) / 3;
    }

    private long shareOfBook(int shelf, int host) {
        int threes = threesOn(shelf);
        long share = 1;
        for (int three = 0; three < threes && three < MOST_EVENINGS; three++) {
            share *= shareOfThree(shelf, three, host);
        }
        return share;
    }

    /** How much of a host's first act such an evening is; 0, if there is no such evening. */
    private long shareOfThree(int shelf, int three, int host) {
        int at = 3 * three;
        if (!shelves.hasPlaces(shelf, at, 3)) return 0;
        int chosen = (int) shelves.at(shelf, at);
        int opened = (int) shelves.at(shelf, at + 1);
        int cow = (int) shelves.at(shelf, at + 2);
        if (!stage.has(chosen) || !stage.has(cow) || opened == chosen) return 0;
        if (opened != NONE && !stage.has(opened)) return 0;
        return chances.shareOf(host, 0, 0, chosen, opened, cow);
    }

    public int apart(int gh, int cox) {
        int g = gh / 10;
        int h = gh % 10;
        if (g < 0 || g >= MOST_HOSTS || h < 0 || h >= MOST_HOSTS || g == h) return BAD;
        int chosen = cox / 100;
        int opened = cox / 10 % 10;
        int cow = cox % 10;
        if (!stage.has(chosen) || !stage.has(opened) || !stage.has(cow) || opened == chosen) return BAD;
        return timesTill(chances.shareOf(g, 0, 0, chosen, opened, cow), chances.shareOf(h, 0, 0, chosen, opened, cow));
    }

    /** How many evenings alike till the one share, multiplied, is 12 times the other. */
    private static int timesTill(long one, long other) {
        if (one == 0) return NOT;
        long ones = 1;
        long others = TWELVE;
        for (int times = 1; times <= MOST_EVENINGS; times++) {
            ones *= one;
            others *= other;
            if (ones >= others) return times;
        }
        return NOT;
    }

    // ---- draws, a partner

    public int drawn(int seed, int nw, int what) {
        int evenings = nw / 10;
        int way = nw % 10;
        if (evenings < 1 || evenings > MOST_DRAWN) return BAD;
        if (way < STAYING || way > CHANGING_EACH || what < 0 || what > 1) return BAD;
        if (stage.together() == 0) return STATE;
        int end = what == 0 ? WON : SEEN;
        int often = 0;
        draws.begin(seed);
        for (int k = 0; k < evenings; k++) {
            if (draws.endOfOne(way, evening.chosen) == end) often++;
        }
        return often;
    }

    public int code(int door, int v) {
        if (!stage.has(door) || v < 0 || v > MOST_CODES) return BAD;
        return stage.say(door, v);
    }

    public long partner(int m, int part) {
        if (m < 0 || m > MOST_DOORS || !isPart(part)) return REFUSED;
        int all = stage.together();
        if (all == 0) return NOT;
        return lowest(m == 0 ? stage.wonByCode() : stage.greatestTogether(m), all, part);
    }

    public int win(int door) {
        if (!stage.has(door)) return BAD;
        return evening.end(door);
    }

    public int led(int what) {
        switch (what) {
            case 0: return evening.endsOf(WON);
            case 1: return evening.endsOf(SEEN);
            case 2: return evening.endsOf(LOST);
            default: return BAD;
        }
    }

    public int image() {
        kept.become(evening);
        imageKept = true;
        return evening.told;
    }

    public int back() {
        if (!imageKept) return STATE;
        evening.become(kept);
        return evening.told;
    }

    public int undo() {
        return changes.takeBack(stage);
    }

    public int redo() {
        return changes.makeAgain(stage);
    }

    // ---- acts, shelves

    public int body(int kind) {
        if (!Bodies.isKind(kind)) return BAD;
        return bodies.isFull() ? FULL : bodies.add(kind);
    }

    public int act(int body, int act, int x) {
        return bodies.perform(body, act, x);
    }

    public int trace(int i) {
        return bodies.ranAt(i);
    }

    public int keep(int shelf, int body) {
        if (!shelves.has(shelf)) return BAD;
        if (body != NONE && !bodies.has(body)) return BAD;
        if (body == NONE) shelves.holdNothing(shelf);
        else shelves.holdBody(shelf, body);
        return 1;
    }

    public int row(int shelf, int sort, int n) {
        if (!shelves.has(shelf) || !Shelves.isSort(sort) || n > Shelves.LONGEST) return BAD;
        if (n < 0) return NO_SIZE;
        shelves.holdRow(shelf, sort, n);
        return 1;
    }

    public int put(int shelf, int i, long v) {
        int refusal = rowRefusal(shelf, i);
        if (refusal != 0) return refusal;
        shelves.set(shelf, i, v);
        return 1;
    }

    public long element(int shelf, int i) {
        return rowRefusal(shelf, i) != 0 ? REFUSED : shelves.at(shelf, i);
    }

    /** Why there is no element i of a row on a shelf; 0, if there is one. */
    private int rowRefusal(int shelf, int i) {
        if (!shelves.has(shelf)) return BAD;
        if (shelves.isEmpty(shelf)) return NOTHING_THERE;
        if (!shelves.isRow(shelf)) return OTHER_KIND;
        return shelves.hasPlaces(shelf, i, 1) ? 0 : NO_PLACE;
    }

    public int shift(int shelf, int i, int other, int j, int n) {
        if (!shelves.has(shelf) || !shelves.has(other)) return BAD;
        if (shelves.isEmpty(shelf) || shelves.isEmpty(other)) return NOTHING_THERE;
        if (!shelves.isRow(shelf) || !shelves.areAlike(shelf, other)) return OTHER_KIND;
        if (!shelves.hasPlaces(shelf, i, n) || !shelves.hasPlaces(other, j, n)) return NO_PLACE;
        shelves.move(shelf, i, other, j, n);
        return n;
    }

    public int taken(int shelf, int k) {
        if (!shelves.has(shelf) || !Bodies.isKind(k)) return BAD;
        if (shelves.isEmpty(shelf)) return NOTHING_THERE;
        int body = shelves.bodyOn(shelf);
        return bodies.has(body) && bodies.isUnder(body, k) ? bodies.kindOf(body) : OTHER_KIND;
    }

    public int count(int what) {
        switch (what) {
            case 0: return stage.doors;
            case 1: return evening.openDoors();
            case 2: return evening.told;
            case 3: return tape.length;
            case 4: return changes.done;
            case 5: return bodies.bodies;
            case 6: return bodies.ran;
            default: return BAD;
        }
    }

    /** The doors with their weights and numbers in the code, the host, how many acts are to come. */
    private static final class Stage {
        final int[] weight = new int[MOST_DOORS];
        private final int[] said = new int[MOST_DOORS];
        private final int[] left = new int[MOST_DOORS];
        int doors;
        int host;
        int acts;
        /** Grows with each change, so that what was worked out before it is known to be old. */
        int age;

        Stage() {
            host = 0;
            acts = 1;
            lay(3);
        }

        void lay(int n) {
            doors = n;
            Arrays.fill(weight, 1);
            Arrays.fill(said, 0);
            age++;
        }

        boolean has(int door) {
            return door >= 0 && door < doors;
        }

        int together() {
            int sum = 0;
            for (int door = 0; door < doors; door++) sum += weight[door];
            return sum;
        }

        /** What one act's shares are out of: as if each door but the chosen one were looked at. */
        long wholeAct() {
            long whole = 1;
            for (int door = 1; door < doors; door++) whole *= TWELVE;
            return whole;
        }

        /** What all acts to come are out of. */
        long wholeActs() {
            long act = wholeAct();
            long whole = 1;
            for (int k = 0; k < acts; k++) whole *= act;
            return whole;
        }

        long wholeWorth() {
            return together() * wholeActs();
        }

        void weigh(int door, int v) {
            if (!has(door)) return;
            weight[door] = v;
            age++;
        }

        int told(int number, int what) {
            if (what == HOST) return host;
            if (what == ACTS) return acts;
            return has(number) ? weight[number] : 0;
        }

        void tell(int number, int what, int v) {
            if (what == HOST) host = v;
            else if (what == ACTS) acts = v;
            else weigh(number, v);
            age++;
        }

        int saidOf(int door) {
            return has(door) ? said[door] : 0;
        }

        int say(int door, int v) {
            int was = saidOf(door);
            if (has(door)) said[door] = v;
            return was;
        }

        /** The least door that is neither open nor chosen; the chosen one, if there is none. */
        int leastOther(int open, int chosen) {
            for (int door = 0; door < doors; door++) {
                if (door != chosen && !isIn(open, door)) return door;
            }
            return chosen;
        }

        int wonByCode() {
            int sum = 0;
            for (int v = 0; v <= MOST_CODES; v++) sum += greatestThatSays(v);
            return sum;
        }

        private int greatestThatSays(int v) {
            int greatest = 0;
            for (int door = 0; door < doors; door++) {
                if (said[door] == v) greatest = Math.max(greatest, weight[door]);
            }
            return greatest;
        }

        /** The m greatest weights together: the best code parts just those doors. */
        int greatestTogether(int m) {
            System.arraycopy(weight, 0, left, 0, doors);
            int sum = 0;
            for (int k = 0; k < m; k++) {
                int greatest = 0;
                for (int door = 1; door < doors; door++) {
                    if (left[door] > left[greatest]) greatest = door;
                }
                sum += left[greatest];
                left[greatest] = 0;
            }
            return sum;
        }
    }

    /** An evening as it is told, and how those before it ended; an image is one that is kept. */
    private static final class Evening {
        private final int[] openedDoor = new int[MOST_ACTS];
        private final int[] chosenThen = new int[MOST_ACTS];
        private final int[] ends = new int[3];
        int told;
        int chosen;
        int open;

        void begin() {
            told = 0;
            open = 0;
        }

        void beginWithFirstDoor() {
            begin();
            chosen = 0;
        }

        boolean isOpen(int door) {
            return isIn(open, door);
        }

        int openDoors() {
            return Integer.bitCount(open);
        }

        int openedIn(int act) {
            return act >= 0 && act < told && act < MOST_ACTS ? openedDoor[act] : NONE;
        }

        int chosenIn(int act) {
            return act >= 0 && act < told && act < MOST_ACTS ? chosenThen[act] : chosen;
        }

        int add(int door) {
            if (told < 0 || told >= MOST_ACTS) return FULL;
            openedDoor[told] = door;
            chosenThen[told] = chosen;
            told++;
            if (door != NONE) open |= 1 << door;
            return told;
        }

        int end(int cow) {
            int how = isOpen(cow) ? SEEN : cow == chosen ? WON : LOST;
            ends[how]++;
            begin();
            return how;
        }

        int endsOf(int how) {
            return how >= 0 && how < ends.length ? ends[how] : 0;
        }

        void become(Evening other) {
            System.arraycopy(other.openedDoor, 0, openedDoor, 0, MOST_ACTS);
            System.arraycopy(other.chosenThen, 0, chosenThen, 0, MOST_ACTS);
            System.arraycopy(other.ends, 0, ends, 0, ends.length);
            told = other.told;
            chosen = other.chosen;
            open = other.open;
        }
    }

    /** What was mended, so that it can be undone and done again. */
    private static final class Changes {
        private static final int MOST = 40;
        private final int[] number = new int[MOST];
        private final int[] what = new int[MOST];
        private final int[] before = new int[MOST];
        private final int[] after = new int[MOST];
        int done;
        private int all;

        void clear() {
            done = 0;
            all = 0;
        }

        void add(int ofNumber, int ofWhat, int was, int becomes) {
            if (done >= MOST) dropOldest();
            number[done] = ofNumber;
            what[done] = ofWhat;
            before[done] = was;
            after[done] = becomes;
            done++;
            all = done;
        }

        private void dropOldest() {
            System.arraycopy(number, 1, number, 0, MOST - 1);
            System.arraycopy(what, 1, what, 0, MOST - 1);
            System.arraycopy(before, 1, before, 0, MOST - 1);
            System.arraycopy(after, 1, after, 0, MOST - 1);
            done = MOST - 1;
        }

        int takeBack(Stage stage) {
            if (done <= 0) return STATE;
            done--;
            stage.tell(number[done], what[done], before[done]);
            return done;
        }

        int makeAgain(Stage stage) {
            if (done >= all || done >= MOST) return STATE;
            stage.tell(number[done], what[done], after[done]);
            done++;
            return all - done;
        }
    }

    /** The tape, and the reading of it as a law: codes in the order in which they are worked out. */
    private static final class Tape {
        private static final int LONGEST = 120;
        private static final int MOST_OPEN = 6;
        private static final int MOST_DIGITS = 4;
        private static final int COMPARING = 2;
        private static final int OPERANDS = 5;
        private final int[] letters = new int[LONGEST];
        final int[] codes = new int[Law.MOST];
        int length;
        int coded;
        private int place;
        private boolean wrong;

        boolean isFull() {
            return length >= LONGEST;
        }

        int append(int letter) {
            if (isFull()) return FULL;
            letters[length] = letter;
            length++;
            return length;
        }

        void clear() {
            length = 0;
        }

        /** NONE, if the tape is a law; else the place of its fault, where the reading stopped. */
        int read() {
            place = 0;
            coded = 0;
            wrong = false;
            line();
            for (int k = 0; k < LONGEST && !wrong && letter() == ';'; k++) {
                place++;
                line();
            }
            return wrong || place < length ? place : NONE;
        }

        private void line() {
            join(0, 0);
            if (!wrong && letter() == '?') {
                place++;
                emit('?');
                join(0, 0);
            }
            emit(';');
        }

        /** Levels 0 to 4 bind closer and closer; a level joins what the next one reads. */
        private void join(int level, int depth) {
            if (level >= OPERANDS) {
                operand(depth);
                return;
            }
            join(level + 1, depth);
            int most = level == COMPARING ? 1 : LONGEST;
            for (int k = 0; k < most && !wrong && isJoint(level, letter()); k++) {
                int joint = letter();
                place++;
                join(level + 1, depth);
                emit(joint);
            }
        }

        private static boolean isJoint(int level, int letter) {
            switch (level) {
                case 0: return letter == '|';
                case 1: return letter == '&';
                case COMPARING: return letter == '<' || letter == '=' || letter == '>';
                case 3: return letter == '+' || letter == '-';
                default: return letter == '*' || letter == '/' || letter == '%';
            }
        }

        private void operand(int depth) {
            int letter = letter();
            if (isDigit(letter)) {
                number();
            } else if (isName(letter)) {
                place++;
                emit(letter);
            } else if (depth < MOST_OPEN && (letter == '(' || letter == '!' || letter == '-')) {
                place++;
                if (letter == '(') bracket(depth + 1);
                else sign(letter, depth + 1);
            } else {
                wrong = true;
            }
        }

        private void bracket(int depth) {
            join(0, depth);
            if (wrong) return;
            if (letter() == ')') place++;
            else wrong = true;
        }

        private void sign(int letter, int depth) {
            operand(depth);
            emit(letter == '-' ? Law.NEGATE : letter);
        }

        private void number() {
            int value = 0;
            for (int k = 0; k < MOST_DIGITS && isDigit(letter()); k++) {
                value = 10 * value + letter() - '0';
                place++;
            }
            emit(Law.NUMBERS + value);
        }

        private static boolean isDigit(int letter) {
            return letter >= '0' && letter <= '9';
        }

        private static boolean isName(int letter) {
            return letter == 'd' || letter == 'x' || letter == 'c' || letter == 'n' || letter == 'r' || letter == 'a';
        }

        private int letter() {
            return place >= 0 && place < length && place < LONGEST ? letters[place] : NONE;
        }

        private void emit(int code) {
            if (coded >= codes.length) return;
            codes[coded] = code;
            coded++;
        }
    }

    /** A host's law; what it gave is kept, for the same is asked over and over. */
    private static final class Law {
        /** A byte of the tape gives one code at most, and the last line's end one more. */
        static final int MOST = 121;
        static final int NUMBERS = 1000;
        static final int NEGATE = '~';
        /** Of acts 0 to 2 with as many open ones as there were acts at most. */
        private static final int SORTS_OF_ACT = 6;
        private static final int DOORS_THRICE = MOST_DOORS * MOST_DOORS * MOST_DOORS;
        private final int[] codes = new int[MOST];
        private final int[] stack = new int[MOST];
        private final byte[] given = new byte[SORTS_OF_ACT * DOORS_THRICE];
        private int length;
        private int top;
        private boolean isTold;
        private int doors;

        void become(Tape tape) {
            System.arraycopy(tape.codes, 0, codes, 0, MOST);
            length = tape.coded;
            isTold = true;
            forget();
        }

        void meet(int n) {
            doors = n;
            if (isTold) forget();
        }

        private void forget() {
            Arrays.fill(given, (byte) 0);
        }

        /** In how many of twelve he opens a door, the cow being where it is. */
        int twelfths(int act, int open, int chosen, int door, int cow) {
            if (!isTold) return door == cow ? 0 : TWELVE;
            int seat = seatOf(act, open, chosen, door, cow);
            if (seat < 0 || seat >= given.length) return held(worked(act, open, chosen, door, cow));
            if (given[seat] == 0) given[seat] = (byte) (1 + held(worked(act, open, chosen, door, cow)));
            return given[seat] - 1;
        }

        private static int seatOf(int act, int open, int chosen, int door, int cow) {
            if (act >= MOST_ACTS || open > act) return NONE;
            int sort = act * (act + 1) / 2 + open;
            return ((sort * MOST_DOORS + chosen) * MOST_DOORS + door) * MOST_DOORS + cow;
        }

        private static int held(int value) {
            return Math.max(0, Math.min(TWELVE, value));
        }

        private int worked(int act, int open, int chosen, int door, int cow) {
            top = 0;
            boolean skips = false;
            for (int k = 0; k < length && k < MOST; k++) {
                int code = codes[k];
                if (skips) {
                    skips = code != ';';
                } else if (code == ';') {
                    return pop();
                } else if (code == '?') {
                    skips = pop() == 0;
                } else if (code >= NUMBERS) {
                    push(code - NUMBERS);
                } else if (code >= 'a' && code <= 'z') {
                    push(named(code, act, open, chosen, door, cow));
                } else if (code == '!') {
                    push(pop() == 0 ? 1 : 0);
                } else if (code == NEGATE) {
                    push(-pop());
                } else {
                    int right = pop();
                    push(joined(code, pop(), right));
                }
            }
            return 0;
        }

        private int named(int name, int act, int open, int chosen, int door, int cow) {
            switch (name) {
                case 'd': return door;
                case 'x': return cow;
                case 'c': return chosen;
                case 'n': return doors;
                case 'r': return open;
                default: return act;
            }
        }

        private static int joined(int joint, int left, int right) {
            switch (joint) {
                case '|': return left != 0 || right != 0 ? 1 : 0;
                case '&': return left != 0 && right != 0 ? 1 : 0;
                case '<': return left < right ? 1 : 0;
                case '=': return left == right ? 1 : 0;
                case '>': return left > right ? 1 : 0;
                case '+': return left + right;
                case '-': return left - right;
                case '*': return left * right;
                case '/': return right == 0 ? 0 : left / right;
                default: return right == 0 ? 0 : left % right;
            }
        }

        private void push(int value) {
            if (top < 0 || top >= MOST) return;
            stack[top] = value;
            top++;
        }

        private int pop() {
            if (top <= 0) return 0;
            top--;
            return stack[top];
        }
    }

    /**
     * How likely things are, as whole numbers: a share of an act is always out of 12 for each door but
     * the chosen one, looked at or not, so that all shares can be added and compared as they are.
     */
    private static final class Chances {
        private final Stage stage;
        private final Law[] laws = new Law[MOST_HOSTS];
        private final long[] told = new long[MOST_DOORS];
        /** By how many acts came: the share of each place of the cow, on the way that is looked at. */
        private final long[][] shares = new long[MOST_ACTS + 1][MOST_DOORS];
        /** Likewise, as long as the host has opened none of the doors that he looked at. */
        private final long[][] passing = new long[MOST_ACTS][MOST_DOORS];
        private final long[] greatest = new long[MOST_HOSTS];
        private final int[] first = new int[MOST_HOSTS];
        private final int[] greatestAge = new int[MOST_HOSTS];

        Chances(Stage of) {
            stage = of;
            for (int host = 0; host < MOST_HOSTS; host++) laws[host] = new Law();
            layLaws();
        }

        void layLaws() {
            for (int host = 0; host < MOST_HOSTS; host++) laws[host].meet(stage.doors);
        }

        void takeLaw(int host, Tape tape) {
            if (!isHost(host)) return;
            laws[host].become(tape);
            stage.age++;
        }

        private static boolean isHost(int host) {
            return host >= 0 && host < MOST_HOSTS;
        }

        /** Of the host that is there. */
        int twelfths(int act, int openDoors, int chosen, int door, int cow) {
            return isHost(stage.host) ? laws[stage.host].twelfths(act, openDoors, chosen, door, cow) : 0;
        }

        /** The share of an act in which a host opens just that door, or NONE. */
        long shareOf(int host, int act, int open, int chosen, int opened, int cow) {
            if (!isHost(host)) return 0;
            int openDoors = Integer.bitCount(open);
            long share = 1;
            boolean looks = true;
            for (int door = 0; door < stage.doors; door++) {
                if (door == chosen) continue;
                if (!looks || isIn(open, door)) {
                    share *= TWELVE;
                    continue;
                }
                int twelfths = laws[host].twelfths(act, openDoors, chosen, door, cow);
                looks = door != opened;
                share *= looks ? TWELVE - twelfths : twelfths;
            }
            return share;
        }

        /** Weighs where the cow may be by all acts told; 0, if it cannot have come so. */
        long weighAll(Evening evening) {
            long all = 0;
            for (int cow = 0; cow < stage.doors; cow++) {
                told[cow] = weighOne(evening, cow);
                all += told[cow];
            }
            return all;
        }

        private long weighOne(Evening evening, int cow) {
            long share = stage.weight[cow];
            int open = 0;
            for (int act = 0; act < evening.told && share != 0; act++) {
                int opened = evening.openedIn(act);
                share *= shareOf(stage.host, act, open, evening.chosenIn(act), opened, cow);
                if (opened != NONE) open |= 1 << opened;
            }
            return share;
        }

        long weighed(int door) {
            return stage.has(door) ? told[door] : 0;
        }

        int likeliest(Evening evening) {
            int likeliest = evening.chosen;
            for (int door = 0; door < stage.doors; door++) {
                if (!evening.isOpen(door) && weighed(door) > weighed(likeliest)) likeliest = door;
            }
            return likeliest;
        }

        long weighNext(Evening evening, int opened) {
            long sum = 0;
            for (int cow = 0; cow < stage.doors; cow++) {
                if (told[cow] == 0) continue;
                sum += told[cow] * shareOf(stage.host, evening.told, evening.open, evening.chosen, opened, cow);
            }
            return sum;
        }

        /** Worth of a way with a door chosen first, out of the stage's whole worth. */
        long worthOf(int host, int way, int door) {
            if (!isHost(host) || !stage.has(door)) return 0;
            // nobody opens the chosen one, so that staying wins as often as the cow is there
            if (way == STAYING) return stage.weight[door] * stage.wholeActs();
            layShares();
            return hostActs(laws[host], way, 0, 0, door);
        }

        private void layShares() {
            for (int cow = 0; cow < stage.doors; cow++) shares[0][cow] = stage.weight[cow];
        }

        long greatestWorth(int host) {
            if (!isHost(host)) return 0;
            if (greatestAge[host] == stage.age) return greatest[host];
            greatestAge[host] = stage.age;
            greatest[host] = NONE;
            layShares();
            for (int door = 0; door < stage.doors; door++) {
                long worth = hostActs(laws[host], AS_IS_BEST, 0, 0, door);
                if (worth > greatest[host]) {
                    greatest[host] = worth;
                    first[host] = door;
                }
            }
            return greatest[host];
        }

        /** The door chosen first in what greatestWorth found. */
        int firstDoor(int host) {
            return isHost(host) ? first[host] : 0;
        }

        /** The host's act number 'act', then all that comes behind it, over each door that he may open. */
        private long hostActs(Law law, int way, int act, int open, int chosen) {
            if (act < 0 || act >= MOST_ACTS) return 0;
            System.arraycopy(shares[act], 0, passing[act], 0, stage.doors);
            long rest = stage.wholeAct();
            long sum = 0;
            for (int door = 0; door < stage.doors; door++) {
                if (door == chosen || isIn(open, door)) continue;
                rest /= TWELVE;
                if (look(law, act, open, chosen, door, rest)) {
                    sum += guestActs(law, way, act + 1, open | 1 << door, chosen);
                }
            }
            return pass(act, rest) ? sum + guestActs(law, way, act + 1, open, chosen) : sum;
        }

        /** He looks at a door: what comes if he opens it, what goes on if not; whether he may open it. */
        private boolean look(Law law, int act, int open, int chosen, int door, long rest) {
            int openDoors = Integer.bitCount(open);
            long[] goesOn = passing[act];
            long[] comes = shares[act + 1];
            boolean mayBe = false;
            for (int cow = 0; cow < stage.doors; cow++) {
                long share = goesOn[cow];
                comes[cow] = 0;
                if (share == 0) continue;
                int twelfths = law.twelfths(act, openDoors, chosen, door, cow);
                if (twelfths != 0) mayBe = true;
                comes[cow] = share * twelfths * rest;
                goesOn[cow] = share * (TWELVE - twelfths);
            }
            return mayBe;
        }

        /** He opens NONE; whether that may be. */
        private boolean pass(int act, long rest) {
            boolean mayBe = false;
            for (int cow = 0; cow < stage.doors; cow++) {
                shares[act + 1][cow] = passing[act][cow] * rest;
                if (shares[act + 1][cow] != 0) mayBe = true;
            }
            return mayBe;
        }

        /** The guest stays or changes behind an act; then the next one, or the end. */
        private long guestActs(Law law, int way, int act, int open, int chosen) {
            boolean isEnd = act >= stage.acts;
            if (way != AS_IS_BEST) {
                boolean changes = way == CHANGING_EACH || way == CHANGING_LAST && isEnd;
                int door = changes ? stage.leastOther(open, chosen) : chosen;
                return isEnd ? shares[act][door] : hostActs(law, way, act, open, door);
            }
            long best = 0;
            for (int door = 0; door < stage.doors; door++) {
                if (isIn(open, door)) continue;
                best = Math.max(best, isEnd ? shares[act][door] : hostActs(law, way, act, open, door));
            }
            return best;
        }
    }

    /** Evenings by draws. */
    private static final class Draws {
        private final Stage stage;
        private final Chances chances;
        private int z;

        Draws(Stage of, Chances by) {
            stage = of;
            chances = by;
        }

        void begin(int seed) {
            z = seed;
        }

        int endOfOne(int way, int first) {
            int cow = drawCow();
            int open = 0;
            int chosen = first;
            for (int act = 0; act < stage.acts; act++) {
                int door = drawAct(act, open, chosen, cow);
                if (door != NONE) open |= 1 << door;
                if (way == CHANGING_EACH) chosen = stage.leastOther(open, chosen);
            }
            if (way == CHANGING_LAST) chosen = stage.leastOther(open, chosen);
            if (isIn(open, cow)) return SEEN;
            return cow == chosen ? WON : LOST;
        }

        private int drawCow() {
            int at = drawOf(stage.together());
            for (int door = 0; door < stage.doors; door++) {
                at -= stage.weight[door];
                if (at < 0) return door;
            }
            return 0;
        }

        private int drawAct(int act, int open, int chosen, int cow) {
            int openDoors = Integer.bitCount(open);
            for (int door = 0; door < stage.doors; door++) {
                if (door == chosen || isIn(open, door)) continue;
                if (drawOf(TWELVE) < chances.twelfths(act, openDoors, chosen, door, cow)) return door;
            }
            return NONE;
        }

        private int drawOf(int many) {
            z = z * 1103515245 + 12345;
            return many > 0 ? (z >>> 8) % many : 0;
        }
    }

    /** Doors of kinds, whose acts come from above where a kind has no body of its own. */
    private static final class Bodies {
        private static final int MOST = 50;
        private static final int KINDS = 8;
        private static final int TRACED = 24;
        private static final int DEEPEST = 40;
        private static final int HIDES = 0, OPENS = 1, ASKS = 2, TELLS = 3;
        private static final int[] ABOVE = {NONE, 0, 0, 2, 1, 3, 0, 4};
        /** By kinds, four acts each: the number of its own body; 0: it has none. */
        private static final int[] OWN = {
            1, 10, 11, 2,
            20, 0, 0, 0,
            0, 30, 0, 0,
            0, 41, 40, 0,
            0, 0, 50, 0,
            0, 0, 0, 60,
            70, 0, 0, 0,
            0, 80, 0, 81,
        };
        private final int[] kinds = new int[MOST];
        private final int[] traced = new int[TRACED];
        int bodies;
        int ran;
        private int number;
        private int kind;

        static boolean isKind(int kind) {
            return kind >= 0 && kind < KINDS;
        }

        boolean isFull() {
            return bodies >= MOST;
        }

        int add(int ofKind) {
            if (isFull()) return FULL;
            kinds[bodies] = ofKind;
            bodies++;
            return bodies - 1;
        }

        boolean has(int body) {
            return body >= 0 && body < bodies && body < MOST;
        }

        int kindOf(int body) {
            return has(body) ? kinds[body] : NONE;
        }

        boolean isUnder(int body, int top) {
            int at = kindOf(body);
            for (int k = 0; k < KINDS && isKind(at); k++) {
                if (at == top) return true;
                at = ABOVE[at];
            }
            return false;
        }

        int ranAt(int i) {
            return i >= 0 && i < ran && i < TRACED ? traced[i] : BAD;
        }

        int perform(int body, int act, int x) {
            ran = 0;
            if (!has(body) || act < HIDES || act > TELLS) return 0;
            number = body;
            kind = kinds[body];
            return run(kind, act, x, 0);
        }

        /** Runs the body of a kind, or of the next above that has one. */
        private int run(int from, int act, int x, int depth) {
            if (depth > DEEPEST) return 0;
            int at = from;
            for (int k = 0; k < KINDS && isKind(at); k++) {
                int body = OWN[4 * at + act];
                if (body != 0) {
                    note(body);
                    return answer(body, ABOVE[at], x, depth + 1);
                }
                at = ABOVE[at];
            }
            return 0;
        }

        private void note(int body) {
            if (ran >= 0 && ran < TRACED) traced[ran] = body;
            ran++;
        }

        /** What a body answers: 'kind' is where its own acts begin, 'above' where those of super do. */
        private int answer(int body, int above, int x, int depth) {
            switch (body) {
                case 1: return x + number;
                case 2: return run(kind, OPENS, x, depth) - run(kind, ASKS, 1, depth);
                case 10: return run(kind, HIDES, x, depth) * 2;
                case 11: return x ^ number;
                case 20: return run(above, HIDES, x, depth) + 3;
                case 30: return -run(above, OPENS, x, depth);
                case 40: return run(above, ASKS, x, depth) * 3;
                case 41: return run(above, OPENS, x + 1, depth);
                case 50: return run(above, ASKS, x, depth) - run(kind, HIDES, 2, depth);
                case 60: return run(above, TELLS, x, depth) ^ 5;
                case 70: return run(above, HIDES, x, depth) * 2;
                case 80: return run(above, OPENS, x, depth) + run(kind, ASKS, 2, depth);
                case 81: return run(above, TELLS, x, depth) - 1;
                default: return 0;
            }
        }
    }

    /** Shelves, each with nothing, a body or a row on it. */
    private static final class Shelves {
        static final int LONGEST = 60;
        private static final int MOST = 6;
        private static final int BYTES = 0, SHORTS = 1, INTS = 2, LONGS = 3, BOOLEANS = 4;
        private static final int NOTHING = -1, BODY = -2;
        /** What is there: a row's sort, NOTHING or BODY. */
        private final int[] held = new int[MOST];
        /** How long the row is, or the body's number. */
        private final int[] size = new int[MOST];
        private final long[][] elements = new long[MOST][LONGEST];

        Shelves() {
            Arrays.fill(held, NOTHING);
        }

        static boolean isSort(int sort) {
            return sort >= BYTES && sort <= BOOLEANS;
        }

        boolean has(int shelf) {
            return shelf >= 0 && shelf < MOST;
        }

        boolean isEmpty(int shelf) {
            return !has(shelf) || held[shelf] == NOTHING;
        }

        boolean isRow(int shelf) {
            return has(shelf) && isSort(held[shelf]);
        }

        boolean isBytes(int shelf) {
            return has(shelf) && held[shelf] == BYTES;
        }

        boolean areAlike(int shelf, int other) {
            return has(shelf) && has(other) && held[shelf] == held[other];
        }

        int bodyOn(int shelf) {
            return has(shelf) && held[shelf] == BODY ? size[shelf] : NONE;
        }

        int lengthOf(int shelf) {
            return isRow(shelf) ? size[shelf] : 0;
        }

        /** Whether n places from one on are all there; at a row's end there are none, but 0 are there. */
        boolean hasPlaces(int shelf, int from, int n) {
            return from >= 0 && n >= 0 && from <= lengthOf(shelf) && n <= lengthOf(shelf) - from;
        }

        void holdNothing(int shelf) {
            if (has(shelf)) held[shelf] = NOTHING;
        }

        void holdBody(int shelf, int body) {
            if (!has(shelf)) return;
            held[shelf] = BODY;
            size[shelf] = body;
        }

        void holdRow(int shelf, int sort, int n) {
            if (!has(shelf) || !isSort(sort) || n < 0 || n > LONGEST) return;
            held[shelf] = sort;
            size[shelf] = n;
            Arrays.fill(elements[shelf], 0L);
        }

        long at(int shelf, int i) {
            return isRow(shelf) && hasPlaces(shelf, i, 1) ? elements[shelf][i] : 0;
        }

        void set(int shelf, int i, long v) {
            if (isRow(shelf) && hasPlaces(shelf, i, 1)) elements[shelf][i] = lowestBits(held[shelf], v);
        }

        private static long lowestBits(int sort, long v) {
            switch (sort) {
                case BYTES: return (byte) v;
                case SHORTS: return (short) v;
                case INTS: return (int) v;
                case LONGS: return v;
                default: return v != 0 ? 1 : 0;
            }
        }

        void move(int shelf, int i, int other, int j, int n) {
            if (!isRow(shelf) || !isRow(other)) return;
            if (!hasPlaces(shelf, i, n) || !hasPlaces(other, j, n)) return;
            System.arraycopy(elements[shelf], i, elements[other], j, n);
        }
    }
}
