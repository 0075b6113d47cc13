import java.util.ArrayList;
import java.util.List;

/**
 * All that an object shows, call by call: first by calls that change nothing, then what is out of sight till
 * something is undone, laid back, or written on. The object is spent by it.
 */
final class Look {
    private final ChangeDoors x;
    private int left;
    private final List<String> seen = new ArrayList<>();

    private Look(ChangeDoors of, int calls) {
        x = of;
        left = calls;
    }

    /** With so many calls at most: the look ends where they do. */
    static List<String> at(ChangeDoors of, int calls) {
        Look look = new Look(of, calls);
        look.atDoorsAndActs();
        look.atWorths();
        look.atHosts();
        look.atBodiesAndShelves();
        look.atChanges();
        look.atImage();
        look.atTape();
        look.atWhatIsWritten();
        return look.seen;
    }

    private long see(String name, long... told) {
        if (left <= 0) return ChangeDoors.STATE;
        left--;
        long answer = Calls.answer(x, name, told);
        seen.add(Calls.show(name, told) + " = " + answer);
        return answer;
    }

    private void atDoorsAndActs() {
        for (int what = 0; what <= 6; what++) see("count", what);
        for (int d = 0; d < 5; d++) for (int what = 0; what <= 2; what++) see("of", d, what);
        for (int act = 0; act < 3; act++) for (int what = 10; what <= 11; what++) see("of", act, what);
        for (int what = 20; what <= 22; what++) see("of", 0, what);
        for (int what = 0; what <= 2; what++) see("led", what);
        for (int d = 0; d < 5; d++) for (int cow = 0; cow < 5; cow++) see("opens", 10 * d + cow);
        for (int d = 0; d < 5; d++) for (int part = 0; part < 2; part++) see("likely", d, part);
        see("best");
        for (int part = 0; part < 2; part++) see("gain", part);
        for (int d = -1; d < 5; d++) for (int part = 0; part < 2; part++) see("next", d, part);
    }

    private void atWorths() {
        for (int way = 0; way <= 2; way++) {
            for (int d = 0; d < 5; d++) for (int part = 0; part < 2; part++) see("worth", way, d, part);
        }
        for (int part = 0; part <= 2; part++) see("theBest", part);
        for (int m = 0; m <= 2; m++) for (int part = 0; part < 2; part++) see("partner", m, part);
        for (int what = 0; what <= 1; what++) see("drawn", 7, 202, what);
    }

    private void atHosts() {
        for (int h = 0; h < 4; h++) for (int part = 0; part < 2; part++) see("sure", 1 << h, 0, part);
        for (int part = 0; part <= 2; part++) see("hardest", 15, part);
        for (int shelf = 0; shelf < 6; shelf++) {
            see("which", shelf, 150, 0);
            see("which", shelf, 151, 1);
            see("judge", shelf, 15);
        }
        for (int gh : new int[] {1, 12, 23, 30}) for (int cox : new int[] {12, 21}) see("apart", gh, cox);
    }

    private void atBodiesAndShelves() {
        for (int i = 0; i < 14; i++) see("trace", i);
        for (int shelf = 0; shelf < 6; shelf++) {
            see("taken", shelf, 0);
            for (int i = 0; i < 6; i++) see("element", shelf, i);
        }
    }

    private void atChanges() {
        for (int k = 0; k < 4 && see("redo") >= 0; k++) atWhatChanges();
        for (int k = 0; k < 9 && see("undo") >= 0; k++) atWhatChanges();
    }

    private void atWhatChanges() {
        for (int d = 0; d < 4; d++) see("of", d, 0);
        see("of", 0, 20);
        see("of", 0, 21);
    }

    private void atImage() {
        see("back");
        see("of", 0, 22);
        for (int act = 0; act < 3; act++) for (int what = 10; what <= 11; what++) see("of", act, what);
        for (int what = 0; what <= 2; what++) see("led", what);
    }

    /** What is on the tape is seen by the law that it makes, or by its fault. */
    private void atTape() {
        see("feed", '1');
        see("law", 3);
        see("mend", 0, 1, 3);
        for (int dx : new int[] {1, 10, 21, 32}) see("opens", dx);
    }

    /** The sort of a row is seen by the bits that it keeps; a body's kind by what it does. */
    private void atWhatIsWritten() {
        for (int shelf = 0; shelf < 6; shelf++) {
            see("put", shelf, 0, 0x123456789ABCDL);
            see("element", shelf, 0);
        }
        for (int body = 0; body < 4; body++) see("act", body, 3, 9);
        see("body", 0);
    }
}
