import java.util.ArrayList;
import java.util.Arrays;
import java.util.List;
import java.util.Map;

/**
 * A run of calls on a new object, told as text: calls stand line by line or parted by ", ", each with the answer
 * that is due behind " = ". A call without one only has to be taken. What else may stand there:
 *   likely 0 = 1/3       a fraction: both parts (an answer without / is due for both)
 *   40* undo             so many times
 *   text d=x?0;12        each byte of it is fed
 *   bytes 2 0 1 -1       a row of bytes on shelf 2
 *   # words              nothing
 * BIG and SMALL are the ends of the ints. Behind each refused call the object shows what it showed without it.
 */
final class Run {
    private static final Map<String, Long> NAMED = Map.of("BAD", -1L, "NOT", -2L, "FULL", -3L, "STATE", -5L, "VOID", -2000000000L,
        "MIN", Long.MIN_VALUE, "BIG", (long) Integer.MAX_VALUE, "SMALL", (long) Integer.MIN_VALUE);
    private static int runs = 0;
    private static int refused = 0;
    private static int wrong = 0;

    private record Call(String name, long[] told) {}

    private final String sentence;
    private final List<Call> made = new ArrayList<>();
    private ChangeDoors x = new ChangeDoors();

    private Run(String of) {
        sentence = of;
    }

    static void run(String sentence, String text) {
        Run run = new Run(sentence);
        runs++;
        for (String line : text.split("\n")) {
            if (line.strip().startsWith("#")) continue;
            for (String call : line.split(", ")) if (!call.isBlank()) run.take(call.strip());
        }
    }

    static void end() {
        System.out.println(runs + " sentences with " + refused + " refused calls, " + wrong + " wrong");
        if (wrong != 0 || runs == 0) System.exit(1);
    }

    private void wrong(String what) {
        wrong++;
        System.out.println("\"" + sentence + "\": " + what);
    }

    private void take(String call) {
        int star = call.indexOf("* ");
        if (star > 0 && call.substring(0, star).chars().allMatch(Character::isDigit)) {
            int times = Integer.parseInt(call.substring(0, star));
            for (int k = 0; k < times; k++) take(call.substring(star + 2));
        } else if (call.startsWith("text ")) {
            for (char c : call.substring(5).toCharArray()) due("feed", new long[] {c}, null, false);
        } else if (call.startsWith("bytes ")) {
            bytes(numbers(call.substring(6)));
        } else {
            int at = call.indexOf(" = ");
            String asked = at < 0 ? call : call.substring(0, at);
            int blank = asked.indexOf(' ');
            String name = blank < 0 ? asked : asked.substring(0, blank);
            long[] told = blank < 0 ? new long[0] : numbers(asked.substring(blank + 1));
            parts(name, told, at < 0 ? null : call.substring(at + 3).strip());
        }
    }

    private void bytes(long[] shelfAndBytes) {
        due("row", new long[] {shelfAndBytes[0], 0, shelfAndBytes.length - 1}, 1L, false);
        for (int k = 1; k < shelfAndBytes.length; k++) {
            due("put", new long[] {shelfAndBytes[0], k - 1, shelfAndBytes[k]}, 1L, false);
        }
    }

    private static long[] numbers(String text) {
        return Arrays.stream(text.strip().split(" +")).mapToLong(Run::number).toArray();
    }

    private static long number(String text) {
        return NAMED.containsKey(text) ? NAMED.get(text) : Long.parseLong(text);
    }

    private void parts(String name, long[] told, String due) {
        if (!Calls.has(name)) throw new IllegalArgumentException(sentence + ": no such call: " + name);
        boolean isRefusal = due != null && (NAMED.containsKey(due) || due.matches("-1[1-4]") && !name.equals("act"));
        if (told.length + 1 != Calls.arguments(name)) {
            due(name, told, due == null ? null : (Long) number(due), isRefusal);
            return;
        }
        String[] both = due == null ? new String[2] : due.contains("/") ? due.split("/") : new String[] {due, due};
        for (int part = 0; part < 2; part++) {
            long[] withPart = Arrays.copyOf(told, told.length + 1);
            withPart[told.length] = part;
            due(name, withPart, both[part] == null ? null : (Long) number(both[part]), isRefusal);
        }
    }

    private void due(String name, long[] told, Long due, boolean isRefusal) {
        long got = Calls.answer(x, name, told);
        made.add(new Call(name, told));
        if (made.size() > Calls.MOST) throw new IllegalStateException(sentence + ": more than " + Calls.MOST + " calls");
        if (due == null ? got < 0 : got != due) {
            wrong(Calls.show(name, told) + " answered " + got + ", due is " + (due == null ? "no refusal" : due));
        }
        if (isRefusal) changesNothing();
    }

    /** The last call was refused: with it and without it all that can be seen is the same. */
    private void changesNothing() {
        refused++;
        int calls = Calls.MOST - made.size();
        List<String> with = Look.at(after(made.size()), calls);
        List<String> without = Look.at(after(made.size() - 1), calls);
        if (with.equals(without)) return;
        Call last = made.get(made.size() - 1);
        for (int k = 0; k < Math.min(with.size(), without.size()); k++) {
            if (with.get(k).equals(without.get(k))) continue;
            wrong("refused, " + Calls.show(last.name(), last.told()) + " made it " + with.get(k) + ", not " + without.get(k));
            return;
        }
        wrong("refused, " + Calls.show(last.name(), last.told()) + " made what is seen longer or shorter");
    }

    private ChangeDoors after(int calls) {
        ChangeDoors twin = new ChangeDoors();
        for (Call call : made.subList(0, calls)) Calls.answer(twin, call.name(), call.told());
        return twin;
    }
}
