/** Promise by promise: ordinary inputs, the edges that the document names, wrong inputs. */
public final class PromisesTest {
    private static final long NO = Long.MIN_VALUE;
    private static final int BIG = Integer.MAX_VALUE, SMALL = Integer.MIN_VALUE;
    private static int wrong = 0;
    private static int checks = 0;
    private static String at = "";

    private static void due(String call, long got, long want) {
        checks++;
        if (got == want) return;
        wrong++;
        System.out.println(at + ": " + call + " answered " + got + ", due is " + want);
    }

    private static int law(ChangeDoors x, int host, String text) {
        for (char c : text.toCharArray()) x.feed(c);
        return x.law(host);
    }

    private static void ratio(String call, long above, long below, long wantAbove, long wantBelow) {
        due(call + " above", above, wantAbove);
        due(call + " below", below, wantBelow);
    }

    private static void rowOf(ChangeDoors x, int shelf, int... bytes) {
        x.row(shelf, 0, bytes.length);
        for (int k = 0; k < bytes.length; k++) x.put(shelf, k, bytes[k]);
    }

    private static ChangeDoors with(int doors, int acts) {
        ChangeDoors x = new ChangeDoors();
        x.doors(doors);
        x.mend(0, 2, acts);
        return x;
    }

    public static void main(String[] args) {
        stage();
        evening();
        beginning();
        together();
        drawsAndPartner();
        actsAndShelves();
        System.out.println(checks + " checks, " + wrong + " wrong");
        if (wrong != 0) System.exit(1);
    }

    private static void stage() {
        promise1();
        promise2();
        promise3();
        promise4();
        promise5();
        promise6();
        promise7();
        promise7Values();
        promise8();
    }

    private static void promise1() {
        at = "promise 1";
        ChangeDoors x = new ChangeDoors();
        due("count(0)", x.count(0), 3);
        for (int d = 0; d < 3; d++) {
            due("weight", x.of(d, 0), 1);
            due("open", x.of(d, 1), 0);
            due("code", x.of(d, 2), 0);
        }
        due("HOST", x.of(0, 20), 0);
        due("A", x.of(0, 21), 1);
        due("CHOSEN", x.of(0, 22), 0);
        for (int what = 1; what <= 6; what++) due("count(" + what + ")", x.count(what), 0);
        for (int what = 0; what <= 2; what++) due("led", x.led(what), 0);
        for (int s = 0; s < 6; s++) due("taken", x.taken(s, 0), -11);
        due("back()", x.back(), -5);
    }

    private static void promise2() {
        at = "promise 2";
        ChangeDoors x = new ChangeDoors();
        for (int bad : new int[] {1, 6, 0, -1, BIG, SMALL}) due("doors(" + bad + ")", x.doors(bad), -1);
        x.mend(0, 0, 7);
        x.mend(0, 1, 2);
        x.mend(0, 2, 3);
        x.code(1, 4);
        x.choose(2);
        x.opened(1);
        law(x, 2, "5");
        x.win(0);
        x.opened(1);
        due("doors(9)", x.doors(9), -1);
        due("a wrong call changes nothing", x.of(0, 0), 7);
        due("doors(5)", x.doors(5), 3);
        for (int d = 0; d < 5; d++) {
            due("weight", x.of(d, 0), 1);
            due("open", x.of(d, 1), 0);
            due("code", x.of(d, 2), 0);
        }
        due("CHOSEN", x.of(0, 22), 0);
        due("ACTS", x.count(2), 0);
        due("CHANGES", x.count(4), 0);
        due("undo()", x.undo(), -5);
        due("HOST stays", x.of(0, 20), 2);
        due("A stays", x.of(0, 21), 3);
        due("LED stays", x.led(2), 1);
        due("LAWS stay", x.opens(10), 5);
        due("doors(5) again", x.doors(5), 5);
        due("doors(2)", x.doors(2), 5);
        due("of a door that is gone", x.of(2, 0), -2000000000);
    }

    private static void promise3() {
        at = "promise 3";
        ChangeDoors x = new ChangeDoors();
        due("no shelf", x.weights(6, 0, 1), -1);
        due("no shelf", x.weights(-1, 0, 1), -1);
        due("n 0", x.weights(0, 0, 0), -1);
        due("n 6", x.weights(0, 0, 6), -1);
        due("a row that is missing", x.weights(0, 0, 3), 0);
        x.row(0, 1, 5);
        due("shorts", x.weights(0, 0, 3), -12);
        x.keep(0, x.body(0));
        due("a door", x.weights(0, 0, 3), -12);
        due("BAD is named first", x.weights(0, 0, 9), -1);
        rowOf(x, 1, 3, 12, 0, 13, 5);
        due("behind the last door", x.weights(1, 0, 5), 3);
        due("weight 0", x.of(0, 0), 3);
        due("weight 1", x.of(1, 0), 12);
        due("weight 2", x.of(2, 0), 0);
        due("no CHANGES", x.count(4), 0);
        due("the row ends", x.weights(1, 4, 3), 1);
        due("weight 0", x.of(0, 0), 5);
        due("weight 1 stays", x.of(1, 0), 12);
        due("one is not so", x.weights(1, 1, 3), 2);
        due("weight 0", x.of(0, 0), 12);
        due("weight 1", x.of(1, 0), 0);
        due("weight 2 stays", x.of(2, 0), 0);
        due("the first is not so", x.weights(1, 3, 2), 0);
        due("at the end", x.weights(1, 5, 2), 0);
        due("far behind", x.weights(1, BIG, 5), 0);
        x.put(1, 0, -1);
        due("below 0", x.weights(1, 0, 2), 0);
        x.mend(0, 0, 4);
        x.weights(1, 4, 1);
        due("CHANGES stay", x.count(4), 1);
        due("undo()", x.undo(), 0);
        due("as it was before the change", x.of(0, 0), 12);
        due("redo()", x.redo(), 0);
        due("as it was changed", x.of(0, 0), 4);
        x.doors(5);
        rowOf(x, 1, 5, 4, 3, 2, 1);
        due("all five", x.weights(1, 0, 5), 5);
        due("the last one", x.of(4, 0), 1);
        due("two", x.weights(1, 3, 2), 2);
        due("the first", x.of(0, 0), 2);
    }

    private static void promise4() {
        at = "promise 4";
        ChangeDoors x = new ChangeDoors();
        due("weight", x.mend(2, 0, 12), 1);
        due("weight", x.mend(2, 0, 0), 12);
        due("host", x.mend(0, 1, 3), 0);
        due("A", x.mend(0, 2, 3), 1);
        due("the same", x.mend(0, 2, 3), 3);
        due("changes", x.count(4), 4);
        int[][] bad = {{3, 0, 1}, {-1, 0, 1}, {0, 0, 13}, {0, 0, -1}, {0, 1, 4}, {0, 1, -1}, {1, 1, 1}, {0, 2, 0},
            {0, 2, 4}, {1, 2, 2}, {0, 3, 1}, {0, -1, 1}, {BIG, 0, 1}, {SMALL, 0, 1}, {0, 0, BIG}};
        for (int[] b : bad) due("mend" + java.util.Arrays.toString(b), x.mend(b[0], b[1], b[2]), -1);
        due("changes", x.count(4), 4);
        due("HOST", x.of(0, 20), 3);
        due("A", x.of(0, 21), 3);
    }

    private static void promise5() {
        at = "promise 5";
        ChangeDoors x = new ChangeDoors();
        x.mend(1, 0, 9);
        x.code(2, 3);
        x.opened(1);
        x.choose(2);
        x.opened(-1);
        due("weight", x.of(1, 0), 9);
        due("open", x.of(1, 1), 1);
        due("shut", x.of(2, 1), 0);
        due("code", x.of(2, 2), 3);
        due("act 0 opened", x.of(0, 10), 1);
        due("act 0 chosen", x.of(0, 11), 0);
        due("act 1 opened", x.of(1, 10), -1);
        due("act 1 chosen", x.of(1, 11), 2);
        due("CHOSEN", x.of(0, 22), 2);
        due("DOORS", x.of(0, 23), 3);
        int[][] bad = {{3, 0}, {-1, 1}, {3, 2}, {2, 10}, {2, 11}, {-1, 10}, {1, 20}, {1, 21}, {1, 22}, {1, 23},
            {-1, 23}, {0, 24}, {0, 19}, {0, 9}, {0, 12}, {0, 3}, {0, -1}, {BIG, 0}, {SMALL, 10}};
        for (int[] b : bad) due("of" + java.util.Arrays.toString(b), x.of(b[0], b[1]), -2000000000);
    }

    private static void promise6() {
        at = "promise 6";
        ChangeDoors x = new ChangeDoors();
        for (int bad : new int[] {-1, 256, BIG, SMALL}) due("feed(" + bad + ")", x.feed(bad), -1);
        due("0", x.feed(0), 1);
        due("255", x.feed(255), 2);
        for (int k = 3; k <= 120; k++) due("feed", x.feed('d'), k);
        due("FULL", x.feed('d'), -3);
        due("BAD is named first", x.feed(256), -1);
        due("count(3)", x.count(3), 120);
        due("law", x.law(0), -100);
        due("empty", x.count(3), 0);
        StringBuilder longest = new StringBuilder();
        while (longest.length() < 118) longest.append("d*");
        due("120 bytes", law(x, 0, longest + "d*"), -220);
        due("120 bytes", law(x, 0, "!" + longest + "d"), 1);
        due("the longest", law(x, 0, "!" + longest.toString().replace("d*", "x+") + "x"), 1);
        due("all of it counts", x.opens(10), 1);
    }

    private static void promise7() {
        at = "promise 7";
        ChangeDoors x = new ChangeDoors();
        x.feed('7');
        due("law(4)", x.law(4), -1);
        due("law(-1)", x.law(-1), -1);
        due("the tape stays", x.count(3), 1);
        due("law(0)", x.law(0), 1);
        due("the tape is empty", x.count(3), 0);
        due("opens", x.opens(10), 7);
        String[][] faults = {{"", "0"}, {"d?", "2"}, {"?d", "0"}, {"d;", "2"}, {";d", "0"}, {"d;;d", "2"}, {"d?c?x", "3"},
            {"(d?c)", "2"}, {"(d;c)", "2"}, {"d<x=c", "3"}, {"(d<x)=c", "-1"}, {"d<x&c>a", "-1"}, {"d<x|c<a?1;2", "-1"},
            {"12345", "4"}, {"1234", "-1"}, {"1 2", "1"}, {"dd", "1"}, {"d1", "1"}, {"1d", "1"}, {"d)", "1"}, {"(d", "2"},
            {"()", "1"}, {"((((((d))))))", "-1"}, {"(((((((d", "6"}, {"!!!!!!d", "-1"}, {"!!!!!!!d", "6"}, {"------d", "-1"},
            {"-------d", "6"}, {"d-!-!-!d", "-1"}, {"d-!-!-!-(d)", "8"}, {"!!!!!!d+!!!!!!d", "-1"}, {"(((((!d-d)))))", "-1"},
            {"(((((!!d", "6"}, {"((((((d)))+(((c))))))", "-1"}, {"d+", "2"}, {"d+*c", "2"}, {"d--c", "-1"}, {"d-+c", "2"},
            {"d||c", "2"}, {"d==c", "2"}, {"d!c", "1"}, {"D", "0"}, {"e", "0"}, {"d?1;2?3", "-1"}, {"d?1;2?", "6"}};
        for (String[] f : faults) {
            int fault = Integer.parseInt(f[1]);
            due("law " + f[0], law(x, 1, f[0]), fault < 0 ? 1 : -100 - fault);
        }
        law(x, 2, "5");
        law(x, 2, "9+");
        x.mend(0, 1, 2);
        due("a fault leaves the law as it was", x.opens(10), 5);
    }

    private static void promise7Values() {
        at = "promise 7, what laws give";
        String[][] values = {{"7", "7"}, {"99", "12"}, {"0-5", "0"}, {"-5", "0"}, {"--5", "5"}, {"!0", "1"}, {"!7", "0"},
            {"!!7", "1"}, {"d", "4"}, {"x", "2"}, {"c", "1"}, {"n", "5"}, {"r", "1"}, {"a", "2"}, {"2+3*2", "8"}, {"(2+1)*3", "9"},
            {"9-3-2", "4"}, {"12/5", "2"}, {"0-12/5+9", "7"}, {"(0-12)/5+9", "7"}, {"(0-12)%5+9", "7"}, {"12%5", "2"},
            {"5/0+3", "3"}, {"5%0+3", "3"}, {"24/2/3", "4"}, {"7%4*3", "9"}, {"3<4", "1"}, {"4<4", "0"}, {"4>3", "1"}, {"4=4", "1"},
            {"5|0", "1"}, {"0|0", "0"}, {"5&7", "1"}, {"5&0", "0"}, {"0&1|1", "1"}, {"1|1&0", "1"}, {"2+2=4", "1"}, {"1<2&2<3", "1"},
            {"9999*9999*9999*3", "12"}, {"9999*9999*9999", "0"}, {"0?5;6", "6"}, {"1?5;6", "5"}, {"0-1?5;6", "5"}, {"0?5", "0"},
            {"0?1;0?2;0?3", "0"}, {"0?1;2;3", "2"}, {"d=4&x=2?8;1", "8"}, {"-d+9", "5"}, {"-(d-9)", "5"}, {"!(d=x)*6", "6"}, {"!d+1", "1"},
            {"0-9999*9999*21-9999*9999*1+9>0", "1"}};
        for (String[] v : values) {
            ChangeDoors x = new ChangeDoors();
            x.doors(5);
            x.choose(1);
            x.opened(0);
            x.opened(-1);
            due("law " + v[0], law(x, 0, v[0]), 1);
            due(v[0], x.opens(42), Integer.parseInt(v[1]));
        }
    }

    private static void promise8() {
        at = "promise 8";
        ChangeDoors x = new ChangeDoors();
        x.doors(4);
        due("not x", x.opens(10), 12);
        due("x", x.opens(22), 0);
        due("CHOSEN", x.opens(1), -5);
        for (int bad : new int[] {4, 14, 40, 41, -1, -10, 100, BIG, SMALL}) due("opens(" + bad + ")", x.opens(bad), -1);
        x.opened(2);
        due("open", x.opens(21), -5);
        due("BAD is named first", x.opens(4), -1);
        due("the cow behind an open one", x.opens(12), 12);
        law(x, 1, "a*3+r");
        x.mend(0, 1, 1);
        due("a 1, r 1", x.opens(10), 4);
        x.opened(-1);
        due("a 2, r 1", x.opens(10), 7);
        x.opened(1);
        due("a 3, r 2", x.opens(30), 11);
        x.anew();
        due("a 0, r 0", x.opens(30), 0);
    }

    private static void evening() {
        promise9();
        promise10();
        promise11();
        promise12();
        promise13();
        promise14();
        promise15();
    }

    private static void promise9() {
        at = "promise 9";
        ChangeDoors x = new ChangeDoors();
        due("choose(2)", x.choose(2), 0);
        due("choose(2)", x.choose(2), 2);
        due("choose(0)", x.choose(0), 2);
        for (int bad : new int[] {3, -1, BIG, SMALL}) due("choose(" + bad + ")", x.choose(bad), -1);
        x.opened(1);
        due("open", x.choose(1), -5);
        due("CHOSEN stays", x.of(0, 22), 0);
        x.anew();
        due("open no more", x.choose(1), 0);
    }

    private static void promise10() {
        at = "promise 10";
        ChangeDoors x = new ChangeDoors();
        due("CHOSEN", x.opened(0), -1);
        for (int bad : new int[] {3, -2, BIG, SMALL}) due("opened(" + bad + ")", x.opened(bad), -1);
        due("opened(1)", x.opened(1), 1);
        due("open", x.opened(1), -1);
        due("NONE", x.opened(-1), 2);
        due("opened(2)", x.opened(2), 3);
        due("FULL", x.opened(-1), -3);
        due("BAD is named first", x.opened(2), -1);
        due("open ones", x.count(1), 2);
        due("acts", x.count(2), 3);
    }

    private static void promise11() {
        at = "promise 11";
        ChangeDoors x = new ChangeDoors();
        x.choose(1);
        x.opened(0);
        x.opened(-1);
        due("anew()", x.anew(), 2);
        due("anew()", x.anew(), 0);
        due("CHOSEN stays", x.of(0, 22), 1);
        due("shut", x.of(0, 1), 0);
        due("act 0", x.of(0, 10), -2000000000);
        due("opened(0)", x.opened(0), 1);
    }

    private static void promise12() {
        at = "promise 12";
        ChangeDoors x = new ChangeDoors();
        ratio("at first", x.likely(1, 0), x.likely(1, 1), 1, 3);
        for (int bad : new int[] {3, -1, BIG}) due("likely(" + bad + ", 0)", x.likely(bad, 0), NO);
        for (int bad : new int[] {2, -1, BIG}) due("likely(0, " + bad + ")", x.likely(0, bad), NO);
        // he opens either of two with one half, if he may: the well known third and two thirds
        law(x, 0, "d=x?0;x=c&d=1?6;12");
        x.opened(1);
        ratio("stay", x.likely(0, 0), x.likely(0, 1), 1, 3);
        ratio("open", x.likely(1, 0), x.likely(1, 1), 0, 1);
        ratio("change", x.likely(2, 0), x.likely(2, 1), 2, 3);
        x.mend(2, 0, 12);
        ratio("weights", x.likely(2, 0), x.likely(2, 1), 24, 25);
        x.mend(2, 0, 0);
        ratio("one is left", x.likely(0, 0), x.likely(0, 1), 1, 1);
        x.mend(0, 0, 0);
        due("NOT", x.likely(0, 0), -2);
        due("BAD is named first", x.likely(0, 2), NO);
        // as they were CHOSEN then: behind the second act the first one still counts as it was told
        ChangeDoors y = with(4, 1);
        law(y, 0, "d=x?0;x=c?3+a;6");
        y.choose(1);
        y.opened(0);
        y.choose(2);
        y.opened(-1);
        // doors 1, 2, 3: 3 * 12 * 6, 6 * 8 * 8, 6 * 6 * 12 of 1032 in all
        ratio("door 1", y.likely(1, 0), y.likely(1, 1), 9, 43);
        ratio("door 2", y.likely(2, 0), y.likely(2, 1), 16, 43);
        ratio("door 3", y.likely(3, 0), y.likely(3, 1), 18, 43);
    }

    private static void promise13() {
        at = "promise 13";
        ChangeDoors x = with(4, 1);
        x.choose(2);
        due("all alike", x.best(), 2);
        x.mend(3, 0, 5);
        x.mend(1, 0, 5);
        due("the least of two", x.best(), 1);
        x.choose(3);
        due("the CHOSEN one of two", x.best(), 3);
        law(x, 0, "6");
        x.opened(1);
        x.mend(1, 0, 12);
        due("not an open one", x.best(), 3);
        x.mend(3, 0, 0);
        x.mend(0, 0, 0);
        x.mend(2, 0, 0);
        due("SEEN: all others are nil", x.best(), 3);
        x.mend(1, 0, 0);
        due("NOT", x.best(), -2);
        ChangeDoors y = new ChangeDoors();
        y.opened(-1);
        due("he never opens NONE", y.best(), -2);
    }

    private static void promise14() {
        at = "promise 14";
        ChangeDoors x = new ChangeDoors();
        ratio("none", x.gain(0), x.gain(1), 0, 1);
        due("gain(2)", x.gain(2), NO);
        due("gain(-1)", x.gain(-1), NO);
        law(x, 0, "d=x?0;x=c&d=1?6;12");
        x.opened(1);
        ratio("a third", x.gain(0), x.gain(1), 1, 3);
        x.choose(2);
        ratio("none to gain", x.gain(0), x.gain(1), 0, 1);
        x.mend(0, 0, 8);
        ratio("back", x.gain(0), x.gain(1), 3, 5);
        for (int d = 0; d < 3; d++) x.mend(d, 0, 0);
        due("NOT", x.gain(0), -2);
        due("BAD is named first", x.gain(2), NO);
    }

    private static void promise15() {
        at = "promise 15";
        ChangeDoors x = with(4, 1);
        law(x, 0, "3+r+a");
        ratio("first looked at", x.next(1, 0), x.next(1, 1), 1, 4);
        ratio("second", x.next(2, 0), x.next(2, 1), 3, 16);
        ratio("third", x.next(3, 0), x.next(3, 1), 9, 64);
        ratio("NONE", x.next(-1, 0), x.next(-1, 1), 27, 64);
        due("CHOSEN", x.next(0, 0), NO);
        due("no door", x.next(4, 0), NO);
        due("no door", x.next(-2, 0), NO);
        due("part", x.next(1, 2), NO);
        x.opened(1);
        due("open", x.next(1, 0), NO);
        ratio("r 1, a 1", x.next(3, 0), x.next(3, 1), 5 * 7, 144);
        x.opened(-1);
        x.choose(3);
        ratio("r 1, a 2", x.next(0, 0), x.next(0, 1), 1, 2);
        x.opened(-1);
        due("three acts", x.next(0, 0), NO);
        due("three acts", x.next(-1, 1), NO);
        x.anew();
        for (int d = 0; d < 4; d++) x.mend(d, 0, 0);
        due("NOT", x.next(0, 0), -2);
        due("BAD is named first", x.next(3, 0), NO);
        ChangeDoors y = new ChangeDoors();
        y.mend(1, 0, 3);
        ratio("by the cow", y.next(1, 0), y.next(1, 1), 2, 5);
        ratio("by the cow", y.next(2, 0), y.next(2, 1), 3, 5);
    }

    private static void beginning() {
        promise16();
        promise17();
    }

    private static void promise16() {
        at = "promise 16";
        ChangeDoors x = new ChangeDoors();
        law(x, 0, "d=x?0;x=c&d=1?6;12");
        ratio("staying", x.worth(0, 0, 0), x.worth(0, 0, 1), 1, 3);
        ratio("changing", x.worth(1, 0, 0), x.worth(1, 0, 1), 2, 3);
        ratio("each time", x.worth(2, 0, 0), x.worth(2, 0, 1), 2, 3);
        x.opened(1);
        ratio("what is told does not count", x.worth(1, 0, 0), x.worth(1, 0, 1), 2, 3);
        int[][] bad = {{3, 0, 0}, {-1, 0, 0}, {0, 3, 0}, {0, -1, 0}, {0, 0, 2}, {0, 0, -1}, {BIG, 0, 0}, {0, SMALL, 0}};
        for (int[] b : bad) due("worth" + java.util.Arrays.toString(b), x.worth(b[0], b[1], b[2]), NO);
        // four doors, two acts, never the cow: staying 1/4; changing at the end gets what is left, 3/4
        ChangeDoors y = with(4, 2);
        ratio("staying", y.worth(0, 0, 0), y.worth(0, 0, 1), 1, 4);
        ratio("changing at the end", y.worth(1, 0, 0), y.worth(1, 0, 1), 3, 4);
        // changing each time: cow 0: 1 opens, to 2, 3 opens, to 0: won; cow 1: 2, to 1, 0, to 3: lost;
        // cow 2: 1, to 2, 0, to 3: lost; cow 3: 1, to 2, 0, to 3: won
        ratio("changing each time", y.worth(2, 0, 0), y.worth(2, 0, 1), 1, 2);
        // he opens all but the chosen one, the cow too: then there is none to change to
        ChangeDoors z = with(3, 2);
        law(z, 0, "12");
        ratio("staying", z.worth(0, 1, 0), z.worth(0, 1, 1), 1, 3);
        ratio("none to change to", z.worth(1, 1, 0), z.worth(1, 1, 1), 1, 3);
        ratio("SEEN is lost", z.worth(2, 1, 0), z.worth(2, 1, 1), 1, 3);
        for (int d = 0; d < 3; d++) z.mend(d, 0, 0);
        due("NOT", z.worth(0, 0, 0), -2);
        due("BAD is named first", z.worth(0, 0, 5), NO);
    }

    private static void promise17() {
        at = "promise 17";
        ChangeDoors x = new ChangeDoors();
        ratio("three doors", x.theBest(0), x.theBest(1), 2, 3);
        due("the least of like ones", x.theBest(2), 0);
        due("theBest(3)", x.theBest(3), NO);
        due("theBest(-1)", x.theBest(-1), NO);
        x.mend(0, 0, 3);
        // from 0: he opens 1 (the cow is behind 0 or 2), or 2 (it is behind 1): 3 + 1 of 5
        ratio("weights 3 1 1", x.theBest(0), x.theBest(1), 4, 5);
        due("first", x.theBest(2), 0);
        x.mend(0, 2, 3);
        ratio("three acts", x.theBest(0), x.theBest(1), 1, 1);
        law(x, 0, "0");
        ratio("a law told later counts", x.theBest(0), x.theBest(1), 3, 5);
        due("first", x.theBest(2), 0);
        x.mend(0, 1, 1);
        ratio("another host", x.theBest(0), x.theBest(1), 1, 1);
        x.undo();
        x.undo();
        ratio("undone", x.theBest(0), x.theBest(1), 3, 5);
        x.undo();
        ratio("undone", x.theBest(0), x.theBest(1), 1, 3);
        rowOf(x, 0, 4, 1, 7);
        x.weights(0, 0, 3);
        ratio("weights from a row", x.theBest(0), x.theBest(1), 7, 12);
        x.doors(5);
        ratio("doors", x.theBest(0), x.theBest(1), 1, 5);
        ChangeDoors y = new ChangeDoors();
        law(y, 0, "x=2?0;d=1?12;0");
        // he tells whether the cow is behind 2, unless 1 is chosen: 1 + 1 of 3, else 1
        ratio("another first", y.theBest(0), y.theBest(1), 2, 3);
        due("another first", y.theBest(2), 0);
        law(y, 0, "c=1&x=2?0;c=1&d=0?12;0");
        ratio("from 1 alone", y.theBest(0), y.theBest(1), 2, 3);
        due("from 1 alone", y.theBest(2), 1);
        law(y, 0, "d=x?12;0");
        ratio("he opens the cow's door: nobody wins it then", y.theBest(0), y.theBest(1), 1, 3);
        for (int d = 0; d < 5; d++) x.mend(d, 0, 0);
        for (int part = 0; part < 3; part++) due("NOT", x.theBest(part), -2);
        due("BAD is named first", x.theBest(3), NO);
    }

    private static void together() {
        promise18();
        promise19();
        promise20();
        promise21();
        promise22();
    }

    private static ChangeDoors fourHosts() {
        ChangeDoors x = new ChangeDoors();
        law(x, 1, "!(d=x)*6");
        law(x, 2, "(x=c)*!(d=x)*12");
        law(x, 3, "6");
        return x;
    }

    private static void promise18() {
        at = "promise 18";
        ChangeDoors x = fourHosts();
        ratio("host 0", x.sure(1, 0, 0), x.sure(1, 0, 1), 2, 3);
        due("host 0", x.sure(1, 0, 2), 1);
        ratio("host 1", x.sure(2, 0, 0), x.sure(2, 0, 1), 1, 2);
        ratio("0 and 1", x.sure(3, 0, 0), x.sure(3, 0, 1), 1, 2);
        due("0 and 1", x.sure(3, 0, 2), 1);
        ratio("host 2", x.sure(4, 0, 0), x.sure(4, 0, 1), 1, 3);
        due("of like ones STAYING", x.sure(4, 0, 2), 0);
        ratio("all", x.sure(15, 0, 0), x.sure(15, 0, 1), 1, 3);
        x.mend(0, 1, 2);
        due("HOST does not count", x.sure(1, 0, 2), 1);
        x.mend(0, 0, 10);
        ratio("a heavy door", x.sure(15, 0, 0), x.sure(15, 0, 1), 5, 6);
        due("a heavy door", x.sure(15, 0, 2), 0);
        int[][] bad = {{0, 0, 0}, {16, 0, 0}, {-1, 0, 0}, {1, 3, 0}, {1, -1, 0}, {1, 0, 3}, {1, 0, -1}};
        for (int[] b : bad) due("sure" + java.util.Arrays.toString(b), x.sure(b[0], b[1], b[2]), NO);
        for (int d = 0; d < 3; d++) x.mend(d, 0, 0);
        for (int part = 0; part < 3; part++) due("NOT", x.sure(1, 0, part), -2);
        due("BAD is named first", x.sure(0, 0, 0), NO);
    }

    private static void promise19() {
        at = "promise 19";
        ChangeDoors x = fourHosts();
        ratio("all", x.hardest(15, 0), x.hardest(15, 1), 1, 3);
        due("all", x.hardest(15, 2), 3);
        due("0 and 2 are alike", x.hardest(5, 2), 0);
        ratio("0 and 2", x.hardest(5, 0), x.hardest(5, 1), 2, 3);
        due("1 and 2", x.hardest(6, 2), 1);
        ratio("1 and 2", x.hardest(6, 0), x.hardest(6, 1), 1, 2);
        due("one alone", x.hardest(4, 2), 2);
        int[][] bad = {{0, 0}, {16, 0}, {-1, 0}, {1, 3}, {1, -1}};
        for (int[] b : bad) due("hardest" + java.util.Arrays.toString(b), x.hardest(b[0], b[1]), NO);
        for (int d = 0; d < 3; d++) x.mend(d, 0, 0);
        for (int part = 0; part < 3; part++) due("NOT", x.hardest(15, part), -2);
        due("BAD is named first", x.hardest(15, 3), NO);
    }

    private static void promise20() {
        at = "promise 20";
        ChangeDoors x = fourHosts();
        due("a shelf with nothing", x.which(0, 10, 0), NO);
        rowOf(x, 0, 0, 2, 1, 0, 1, 0);
        ratio("host 0", x.which(0, 150, 0), x.which(0, 150, 1), 8, 11);
        ratio("host 1", x.which(0, 151, 0), x.which(0, 151, 1), 2, 11);
        ratio("host 2", x.which(0, 152, 0), x.which(0, 152, 1), 0, 1);
        ratio("host 3", x.which(0, 153, 0), x.which(0, 153, 1), 1, 11);
        ratio("of 1 and 3", x.which(0, 101, 0), x.which(0, 101, 1), 2, 3);
        ratio("alone, and not by him", x.which(0, 42, 0), x.which(0, 42, 1), 0, 1);
        x.mend(0, 0, 0);
        ratio("weights do not count", x.which(0, 150, 0), x.which(0, 150, 1), 8, 11);
        rowOf(x, 1, 0, -1, 1);
        ratio("NONE", x.which(1, 103, 0), x.which(1, 103, 1), 1, 3);
        rowOf(x, 1);
        ratio("no evenings", x.which(1, 153, 0), x.which(1, 153, 1), 1, 4);
        int[][] none = {{0, 2}, {0, 0, 1}, {3, 2, 1}, {0, 3, 1}, {0, 2, 3}, {-1, 2, 1}, {0, -2, 1}, {0, 2, -1}, {0, 2, 1, 0},
            {0, 2, 1, 0, 1}};
        for (int[] row : none) {
            rowOf(x, 1, row);
            ratio("none" + java.util.Arrays.toString(row), x.which(1, 150, 0), x.which(1, 150, 1), 0, 1);
        }
        rowOf(x, 1, 0, 2, 1, 0, 2, 1, 0, 2, 1, 0, 2, 1);
        ratio("four", x.which(1, 91, 0), x.which(1, 91, 1), NO, NO);
        ratio("four", x.which(1, 90, 0), x.which(1, 90, 1), 256, 257);
        rowOf(x, 1, 0, 2, 1, 0, 2, 1, 0, 2, 1, 0, 2, 1, 0, 2, 1);
        due("five", x.which(1, 90, 0), NO);
        int[][] bad = {{6, 10, 0}, {-1, 10, 0}, {0, 0, 0}, {0, 160, 0}, {0, 11, 0}, {0, 14, 0}, {0, 155, 0}, {0, -10, 0},
            {0, 150, 2}, {0, 150, -1}, {0, BIG, 0}, {0, SMALL, 0}};
        for (int[] b : bad) due("which" + java.util.Arrays.toString(b), x.which(b[0], b[1], b[2]), NO);
        x.row(2, 1, 3);
        due("shorts", x.which(2, 10, 0), NO);
        x.keep(2, x.body(0));
        due("a door", x.which(2, 10, 0), NO);
    }

    private static void promise21() {
        at = "promise 21";
        ChangeDoors x = fourHosts();
        due("nothing", x.judge(0, 1), -11);
        due("BAD is named first", x.judge(0, 0), -1);
        int[][] bad = {{6, 1}, {-1, 1}, {0, 16}, {0, -1}, {BIG, 1}};
        for (int[] b : bad) due("judge" + java.util.Arrays.toString(b), x.judge(b[0], b[1]), -1);
        x.row(0, 4, 3);
        due("booleans", x.judge(0, 1), -12);
        x.keep(0, x.body(3));
        due("a door", x.judge(0, 1), -12);
        rowOf(x, 0);
        due("no evenings", x.judge(0, 1), -2);
        rowOf(x, 0, 0, 2, 1, 0, 1, 0, 0, 2, 2, 0, 1, 2);
        due("host 0", x.judge(0, 1), 2);
        due("host 2", x.judge(0, 4), 0);
        due("hosts 1 and 2", x.judge(0, 6), 2);
        due("with host 3", x.judge(0, 9), -2);
        int[][] last = {{0, 0, 1}, {3, 2, 1}, {0, 3, 1}, {0, 2, 3}, {-1, 2, 1}, {0, -2, 1}, {0, 2, -1}, {0}, {0, 2}};
        for (int[] three : last) {
            int[] row = new int[18 + three.length];
            for (int k = 0; k < 18; k++) row[k] = new int[] {0, 2, 1}[k % 3];
            System.arraycopy(three, 0, row, 18, three.length);
            rowOf(x, 0, row);
            due("the seventh " + java.util.Arrays.toString(three), x.judge(0, 15), 6);
        }
    }

    private static void promise22() {
        at = "promise 22";
        ChangeDoors x = fourHosts();
        due("4 times, twice", x.apart(3, 21), 2);
        due("2 times, four times", x.apart(1, 21), 4);
        due("less likely", x.apart(10, 21), -2);
        due("not by the other", x.apart(30, 22), 1);
        due("not by the one", x.apart(3, 22), -2);
        due("by neither", x.apart(2, 22), -2);
        due("alike", x.apart(2, 20), -2);
        law(x, 1, "12");
        law(x, 2, "1");
        due("just 12 times", x.apart(12, 10), 1);
        law(x, 2, "7");
        due("12 by 7, five times", x.apart(12, 10), -2);
        law(x, 2, "6");
        due("12 by 6, four times", x.apart(12, 10), 4);
        law(x, 2, "4");
        due("12 by 4, three times", x.apart(12, 10), 3);
        int[][] bad = {{0, 21}, {11, 21}, {4, 21}, {40, 21}, {-1, 21}, {3, 0}, {3, 110}, {3, 31}, {3, 23}, {3, 321}, {3, -1},
            {3, -10}, {3, 90}, {BIG, 21}, {SMALL, 21}, {3, BIG}, {3, SMALL}};
        for (int[] b : bad) due("apart" + java.util.Arrays.toString(b), x.apart(b[0], b[1]), -1);
        // the farthest numbers: one in 12 to the fourth against all of it
        ChangeDoors y = new ChangeDoors();
        y.doors(5);
        law(y, 1, "d=4?1;11");
        law(y, 2, "d=4?12;0");
        due("far apart", y.apart(21, 40), 1);
        due("far apart", y.apart(12, 40), -2);
        law(y, 3, "d=4?12;0");
        due("as far as can be alike", y.apart(23, 40), -2);
    }

    private static void drawsAndPartner() {
        promise23();
        promise24();
        promise25();
        promise26();
        promise27();
        promise28And29();
        promise30And31();
    }

    private static void promise23() {
        at = "promise 23";
        ChangeDoors x = new ChangeDoors();
        int[][] bad = {{0, 0}, {9, 0}, {510, 0}, {13, 0}, {19, 0}, {10, 2}, {10, -1}, {-10, 0}, {BIG, 0}, {SMALL, 0}};
        for (int[] b : bad) due("drawn(1, " + b[0] + ", " + b[1] + ")", x.drawn(1, b[0], b[1]), -1);
        // seed 5: z = 1222621274; (z >>> 8) % 3 = 4775864 % 3 = 2: the cow is behind door 2
        due("stay at 0", x.drawn(5, 10, 0), 0);
        due("from 0 to 2", x.drawn(5, 11, 0), 1);
        x.choose(2);
        due("stay at 2", x.drawn(5, 10, 0), 1);
        due("from 2 to 1", x.drawn(5, 11, 0), 0);
        law(x, 1, "12");
        x.mend(0, 1, 1);
        x.choose(0);
        x.mend(0, 2, 2);
        due("SEEN", x.drawn(5, 10, 1), 1);
        due("SEEN is not won", x.drawn(5, 11, 0), 0);
        due("the evening stays as it is", x.count(2), 0);
        x.mend(0, 2, 1);
        due("only door 1 is open", x.drawn(5, 10, 1), 0);
        for (int seed : new int[] {0, 1, -1, BIG, SMALL}) {
            due("50 evenings of seed " + seed, x.drawn(seed, 500, 0) + x.drawn(seed, 501, 0) + x.drawn(seed, 501, 1), 50);
        }
        for (int d = 0; d < 3; d++) x.mend(d, 0, 0);
        due("STATE", x.drawn(1, 10, 0), -5);
        due("BAD is named first", x.drawn(1, 10, 2), -1);
    }

    private static void promise24() {
        at = "promise 24";
        ChangeDoors x = new ChangeDoors();
        due("code(2, 4)", x.code(2, 4), 0);
        due("code(2, 1)", x.code(2, 1), 4);
        due("code(2, 1)", x.code(2, 1), 1);
        int[][] bad = {{3, 0}, {-1, 0}, {0, 5}, {0, -1}, {BIG, 0}, {0, SMALL}};
        for (int[] b : bad) due("code" + java.util.Arrays.toString(b), x.code(b[0], b[1]), -1);
        due("of(2, 2)", x.of(2, 2), 1);
        due("no CHANGE", x.count(4), 0);
    }

    private static void promise25() {
        at = "promise 25";
        ChangeDoors x = with(5, 1);
        int[] weights = {2, 7, 3, 7, 1};
        for (int d = 0; d < 5; d++) x.mend(d, 0, weights[d]);
        ratio("one number", x.partner(0, 0), x.partner(0, 1), 7, 20);
        x.code(1, 4);
        ratio("two numbers", x.partner(0, 0), x.partner(0, 1), 7, 10);
        x.code(0, 2);
        x.code(2, 2);
        ratio("three numbers", x.partner(0, 0), x.partner(0, 1), 17, 20);
        int[] most = {0, 7, 14, 17, 19, 20};
        for (int m = 1; m <= 5; m++) due("best of " + m, x.partner(m, 0) * 20, most[m] * x.partner(m, 1));
        ratio("all", x.partner(5, 0), x.partner(5, 1), 1, 1);
        int[][] bad = {{6, 0}, {-1, 0}, {0, 2}, {0, -1}, {BIG, 0}};
        for (int[] b : bad) due("partner" + java.util.Arrays.toString(b), x.partner(b[0], b[1]), NO);
        ChangeDoors y = with(2, 1);
        ratio("more numbers than doors", y.partner(5, 0), y.partner(5, 1), 1, 1);
        y.mend(0, 0, 0);
        y.mend(1, 0, 0);
        due("NOT", y.partner(0, 0), -2);
        due("NOT", y.partner(3, 1), -2);
        due("BAD is named first", y.partner(3, 2), NO);
    }

    private static void promise26() {
        at = "promise 26";
        ChangeDoors x = new ChangeDoors();
        x.choose(1);
        x.opened(0);
        for (int bad : new int[] {3, -1, BIG, SMALL}) due("win(" + bad + ")", x.win(bad), -1);
        due("acts stay", x.count(2), 1);
        due("SEEN", x.win(0), 2);
        due("anew", x.count(2), 0);
        due("CHOSEN stays", x.of(0, 22), 1);
        due("LOST", x.win(0), 0);
        due("WON", x.win(1), 1);
    }

    private static void promise27() {
        at = "promise 27";
        ChangeDoors x = new ChangeDoors();
        x.win(0);
        x.win(0);
        x.win(0);
        x.win(1);
        x.win(2);
        x.opened(1);
        x.win(1);
        due("WON", x.led(0), 3);
        due("SEEN", x.led(1), 1);
        due("LOST", x.led(2), 2);
        for (int bad : new int[] {3, -1, BIG, SMALL}) due("led(" + bad + ")", x.led(bad), -1);
    }

    private static void promise28And29() {
        at = "promises 28, 29";
        ChangeDoors x = new ChangeDoors();
        due("none", x.back(), -5);
        x.choose(2);
        x.opened(0);
        x.win(1);
        x.opened(1);
        x.opened(-1);
        x.mend(0, 0, 5);
        due("image()", x.image(), 2);
        x.win(2);
        x.choose(0);
        x.opened(2);
        x.mend(1, 0, 6);
        due("back()", x.back(), 2);
        due("CHOSEN", x.of(0, 22), 2);
        due("act 0", x.of(0, 10), 1);
        due("act 0, chosen", x.of(0, 11), 2);
        due("act 1", x.of(1, 10), -1);
        due("open", x.of(1, 1), 1);
        due("open", x.count(1), 1);
        due("WON", x.led(0), 0);
        due("LOST", x.led(2), 1);
        due("WEIGHTS stay", x.of(1, 0), 6);
        due("CHANGES stay", x.count(4), 2);
        x.anew();
        due("back() again", x.back(), 2);
        x.anew();
        due("image() again", x.image(), 0);
        due("back()", x.back(), 0);
        x.doors(9);
        due("no doors came", x.back(), 0);
        x.doors(3);
        due("doors() came since", x.back(), -5);
        x.image();
        due("back()", x.back(), 0);
    }

    private static void promise30And31() {
        at = "promises 30, 31";
        ChangeDoors x = new ChangeDoors();
        due("undo()", x.undo(), -5);
        due("redo()", x.redo(), -5);
        x.mend(0, 0, 5);
        x.mend(0, 1, 2);
        x.mend(0, 2, 3);
        x.mend(0, 2, 3);
        due("undo()", x.undo(), 2);
        due("A", x.of(0, 21), 1);
        due("undo()", x.undo(), 1);
        due("HOST", x.of(0, 20), 0);
        due("redo()", x.redo(), 1);
        due("HOST", x.of(0, 20), 2);
        due("A", x.of(0, 21), 1);
        x.mend(0, 1, 2);
        x.mend(0, 0, 99);
        due("the same, or a wrong one, is no change", x.redo(), 0);
        due("A", x.of(0, 21), 3);
        due("redo()", x.redo(), -5);
        x.undo();
        x.mend(1, 0, 4);
        due("another came behind", x.redo(), -5);
        due("count(4)", x.count(4), 3);
        due("undo()", x.undo(), 2);
        due("undo()", x.undo(), 1);
        due("undo()", x.undo(), 0);
        due("weight", x.of(0, 0), 1);
        due("undo()", x.undo(), -5);
        due("redo()", x.redo(), 2);
        for (int k = 0; k < 45; k++) x.mend(2, 0, 2 + k % 2);
        due("40 at most", x.count(4), 40);
        for (int k = 39; k >= 0; k--) due("undo()", x.undo(), k);
        due("undo()", x.undo(), -5);
        due("the oldest are gone", x.of(2, 0), 2);
        due("an older one stays", x.of(0, 0), 5);
        for (int k = 39; k >= 0; k--) due("redo()", x.redo(), k);
        due("all again", x.of(2, 0), 2);
        due("redo()", x.redo(), -5);
        x.undo();
        x.doors(3);
        due("doors() ends them", x.redo(), -5);
        due("doors() ends them", x.undo(), -5);
        manyChanges();
    }

    /** Unlike changes, more than are kept: each step back and forth is as it was. */
    private static void manyChanges() {
        ChangeDoors x = new ChangeDoors();
        x.doors(5);
        int most = 57;
        int[][] states = new int[most + 1][];
        states[0] = settings(x);
        for (int k = 0; k < most; k++) {
            if (k % 7 == 3) x.mend(0, 1, (x.of(0, 20) + 1 + k % 3) % 4);
            else if (k % 7 == 5) x.mend(0, 2, x.of(0, 21) % 3 + 1);
            else x.mend(k % 5, 0, (x.of(k % 5, 0) + 1 + k % 12) % 13);
            states[k + 1] = settings(x);
        }
        due("40 are kept", x.count(4), 40);
        for (int round = 0; round < 2; round++) {
            for (int k = 1; k <= 40; k++) {
                due("undo()", x.undo(), 40 - k);
                due("as it was, " + k + " back", java.util.Arrays.equals(settings(x), states[most - k]) ? 1 : 0, 1);
            }
            due("undo()", x.undo(), -5);
            for (int k = 39; k >= 0; k--) {
                due("redo()", x.redo(), k);
                due("as it was, " + k + " to come", java.util.Arrays.equals(settings(x), states[most - k]) ? 1 : 0, 1);
            }
            due("redo()", x.redo(), -5);
        }
    }

    private static int[] settings(ChangeDoors x) {
        int[] all = {x.of(0, 0), x.of(1, 0), x.of(2, 0), x.of(3, 0), x.of(4, 0), x.of(0, 20), x.of(0, 21)};
        return all;
    }

    private static void actsAndShelves() {
        promise32();
        promise33And34();
        promise35And40();
        promise36();
        promise37And38();
        promise39();
        promise41();
    }

    private static void promise32() {
        at = "promise 32";
        ChangeDoors x = new ChangeDoors();
        for (int bad : new int[] {8, -1, BIG, SMALL}) due("body(" + bad + ")", x.body(bad), -1);
        for (int k = 0; k < 50; k++) due("body", x.body(k % 8), k);
        due("FULL", x.body(0), -3);
        due("BAD is named first", x.body(8), -1);
        due("count(5)", x.count(5), 50);
        x.doors(4);
        due("doors() leaves them", x.count(5), 50);
    }

    private static void ran(ChangeDoors x, int body, int act, int arg, int want, int... bodies) {
        String call = "act(" + body + ", " + act + ", " + arg + ")";
        due(call, x.act(body, act, arg), want);
        due(call + " ran", x.count(6), bodies.length);
        for (int k = 0; k < bodies.length; k++) due(call + " trace " + k, x.trace(k), bodies[k]);
        due(call + " trace", x.trace(bodies.length), -1);
        due(call + " trace", x.trace(-1), -1);
    }

    private static void promise33And34() {
        at = "promises 33, 34";
        ChangeDoors x = new ChangeDoors();
        due("no trace", x.trace(0), -1);
        for (int kind = 0; kind < 8; kind++) x.body(kind);
        ran(x, 0, 0, 7, 7, 1);
        ran(x, 0, 1, 7, 14, 10, 1);
        ran(x, 0, 2, 7, 7, 11);
        ran(x, 0, 3, 7, 13, 2, 10, 1, 11);
        ran(x, 1, 0, 7, 11, 20, 1);
        ran(x, 1, 1, 7, 22, 10, 20, 1);
        ran(x, 2, 1, 7, -18, 30, 10, 1);
        ran(x, 3, 1, 7, -22, 41, 30, 10, 1);
        ran(x, 3, 2, 7, 12, 40, 11);
        ran(x, 3, 3, 7, -28, 2, 41, 30, 10, 1, 40, 11);
        ran(x, 4, 2, 7, -6, 50, 11, 20, 1);
        ran(x, 5, 3, 7, (-26 - 12) ^ 5, 60, 2, 41, 30, 10, 1, 40, 11);
        ran(x, 6, 0, 7, 26, 70, 1);
        ran(x, 6, 1, 7, 52, 10, 70, 1);
        ran(x, 7, 1, 7, 34 + (5 - 12), 80, 10, 20, 1, 50, 11, 20, 1);
        ran(x, 7, 3, 7, 27 - (6 - 12) - 1, 81, 2, 80, 10, 20, 1, 50, 11, 20, 1, 50, 11, 20, 1);
        ran(x, 7, 0, BIG, SMALL + 9, 20, 1);
        ran(x, 3, 1, BIG, -(SMALL + 3) * 2, 41, 30, 10, 1);
        int[][] bad = {{8, 0}, {-1, 0}, {0, 4}, {0, -1}, {BIG, 0}, {0, SMALL}};
        for (int[] b : bad) {
            x.act(7, 3, 1);
            ran(x, b[0], b[1], 5, 0);
        }
        due("trace(24)", x.trace(24), -1);
        due("trace(BIG)", x.trace(BIG), -1);
    }

    private static void promise35And40() {
        at = "promises 35, 40";
        ChangeDoors x = new ChangeDoors();
        due("no body", x.keep(0, 0), -1);
        for (int kind = 0; kind < 8; kind++) x.body(kind);
        int[][] bad = {{6, 0}, {-1, 0}, {0, 8}, {0, -2}, {BIG, 0}, {0, SMALL}};
        for (int[] b : bad) due("keep" + java.util.Arrays.toString(b), x.keep(b[0], b[1]), -1);
        due("nothing", x.taken(0, 0), -11);
        int[][] above = {{0}, {1, 0}, {2, 0}, {3, 2, 0}, {4, 1, 0}, {5, 3, 2, 0}, {6, 0}, {7, 4, 1, 0}};
        for (int kind = 0; kind < 8; kind++) {
            due("keep", x.keep(kind % 6, kind), 1);
            for (int k = 0; k < 8; k++) {
                int want = -12;
                for (int a : above[kind]) if (a == k) want = kind;
                due("kind " + kind + " for " + k, x.taken(kind % 6, k), want);
            }
        }
        due("no kind", x.taken(0, 8), -1);
        due("no kind", x.taken(0, -1), -1);
        due("no shelf", x.taken(6, 0), -1);
        due("no shelf", x.taken(-1, 0), -1);
        due("nothing again", x.keep(0, -1), 1);
        due("nothing", x.taken(0, 0), -11);
        due("BAD is named first", x.taken(0, 9), -1);
        x.row(0, 2, 5);
        due("a row", x.taken(0, 0), -12);
    }

    private static void promise36() {
        at = "promise 36";
        ChangeDoors x = new ChangeDoors();
        int[][] bad = {{6, 0, 1}, {-1, 0, 1}, {0, 5, 1}, {0, -1, 1}, {0, 0, 61}, {0, 0, BIG}, {6, 0, -1}, {0, 5, -1}};
        for (int[] b : bad) due("row" + java.util.Arrays.toString(b), x.row(b[0], b[1], b[2]), -1);
        due("-14", x.row(0, 0, -1), -14);
        due("-14", x.row(0, 4, SMALL), -14);
        due("nothing yet", x.put(0, 0, 1), -11);
        for (int sort = 0; sort < 5; sort++) {
            due("row", x.row(sort, sort, 60), 1);
            due("0 at first", x.element(sort, 59), 0);
            due("the end", x.element(sort, 60), NO);
            x.put(sort, 59, 1);
            due("a new row", x.row(sort, sort, 60), 1);
            due("0 at first", x.element(sort, 59), 0);
        }
        due("none", x.row(5, 0, 0), 1);
        due("none", x.put(5, 0, 1), -13);
        due("a wrong one", x.row(0, 0, -5), -14);
        due("leaves the old one", x.put(0, 59, 3), 1);
    }

    private static void promise37And38() {
        at = "promises 37, 38";
        ChangeDoors x = new ChangeDoors();
        long v = 0x123456789ABCDEF0L;
        long[] want = {(byte) 0xF0, (short) 0xDEF0, 0x9ABCDEF0, v, 1};
        for (int sort = 0; sort < 5; sort++) {
            x.row(sort, sort, 3);
            due("put", x.put(sort, 2, v), 1);
            due("element", x.element(sort, 2), want[sort]);
            due("the one ahead", x.element(sort, 1), 0);
            due("-13", x.put(sort, 3, v), -13);
            due("-13", x.put(sort, -1, v), -13);
            due("no element", x.element(sort, 3), NO);
            due("no element", x.element(sort, -1), NO);
            due("no element", x.element(sort, BIG), NO);
            due("no element", x.element(sort, SMALL), NO);
        }
        x.put(4, 0, 256);
        due("true", x.element(4, 0), 1);
        x.put(4, 0, 0);
        due("false", x.element(4, 0), 0);
        due("-11", x.put(5, 0, 1), -11);
        due("no element", x.element(5, 0), NO);
        x.keep(5, x.body(0));
        due("-12", x.put(5, 99, 1), -12);
        due("no element", x.element(5, 0), NO);
        due("BAD", x.put(6, 0, 1), -1);
        due("BAD", x.put(-1, 0, 1), -1);
        due("BAD", x.element(6, 0), NO);
        due("BAD", x.element(-1, 0), NO);
    }

    private static void promise39() {
        at = "promise 39";
        ChangeDoors x = new ChangeDoors();
        rowOf(x, 0, 1, 2, 3, 4, 5);
        x.row(1, 0, 3);
        due("shift", x.shift(0, 1, 1, 0, 3), 3);
        for (int k = 0; k < 3; k++) due("came", x.element(1, k), k + 2);
        due("onto itself, up", x.shift(0, 0, 0, 1, 4), 4);
        int[] up = {1, 1, 2, 3, 4};
        for (int k = 0; k < 5; k++) due("up", x.element(0, k), up[k]);
        due("onto itself, down", x.shift(0, 1, 0, 0, 4), 4);
        int[] down = {1, 2, 3, 4, 4};
        for (int k = 0; k < 5; k++) due("down", x.element(0, k), down[k]);
        due("none at the end", x.shift(0, 5, 1, 3, 0), 0);
        int[][] away = {{0, 6, 1, 0, 0}, {0, 0, 1, 4, 0}, {0, 0, 1, 0, 4}, {0, 3, 1, 0, 3}, {0, -1, 1, 0, 1}, {0, 0, 1, -1, 1},
            {0, 0, 1, 0, -1}, {0, BIG, 1, 0, BIG}, {0, 1, 1, 1, BIG}, {0, SMALL, 1, 0, 1}};
        for (int[] b : away) due("shift" + java.util.Arrays.toString(b), x.shift(b[0], b[1], b[2], b[3], b[4]), -13);
        due("nothing", x.shift(2, 0, 0, 0, 1), -11);
        due("nothing", x.shift(0, 0, 2, 0, 1), -11);
        x.keep(3, x.body(0));
        due("a door", x.shift(3, 0, 0, 0, 1), -12);
        due("a door", x.shift(0, 0, 3, 0, 1), -12);
        due("two doors", x.shift(3, 0, 3, 0, 1), -12);
        due("-11 is named first", x.shift(3, 0, 2, 0, 1), -11);
        x.row(4, 1, 5);
        due("unlike", x.shift(0, 0, 4, 0, 1), -12);
        due("-12 is named first", x.shift(0, 99, 4, 0, 1), -12);
        due("BAD", x.shift(6, 0, 2, 0, 1), -1);
        due("BAD", x.shift(2, 0, -1, 0, 1), -1);
    }

    private static void promise41() {
        at = "promise 41";
        ChangeDoors x = new ChangeDoors();
        x.doors(4);
        x.opened(2);
        x.opened(-1);
        x.opened(3);
        x.feed('d');
        x.mend(0, 0, 2);
        x.body(7);
        x.body(0);
        x.act(0, 3, 1);
        int[] want = {4, 2, 3, 1, 1, 2, 14};
        for (int what = 0; what < 7; what++) due("count(" + what + ")", x.count(what), want[what]);
        for (int bad : new int[] {7, -1, BIG, SMALL}) due("count(" + bad + ")", x.count(bad), -1);
    }
}
