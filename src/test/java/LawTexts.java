import java.util.Random;

/** Random texts of laws: most are right ones, some are spoilt. */
final class LawTexts {
    private static final String NAMES = "dxcnra";
    private static final String LETTERS = "dxcnra0123456789|&<=>+-*/%!()?;";

    private LawTexts() {}

    static String random(Random r) {
        int kind = r.nextInt(10);
        String text = lines(r);
        if (kind < 7) return text;
        if (kind == 7) return spoilt(r, text);
        if (kind == 8) return text.substring(0, r.nextInt(text.length() + 1));
        StringBuilder noise = new StringBuilder();
        for (int k = r.nextInt(12); k > 0; k--) noise.append(LETTERS.charAt(r.nextInt(LETTERS.length())));
        return noise.toString();
    }

    static String right(Random r) {
        return lines(r);
    }

    private static String spoilt(Random r, String text) {
        StringBuilder s = new StringBuilder(text);
        int at = r.nextInt(s.length());
        char c = r.nextInt(8) == 0 ? (char) r.nextInt(256) : LETTERS.charAt(r.nextInt(LETTERS.length()));
        switch (r.nextInt(3)) {
            case 0: s.setCharAt(at, c); break;
            case 1: s.insert(at, c); break;
            default: s.deleteCharAt(at);
        }
        return s.length() > 120 ? s.substring(0, 120) : s.toString();
    }

    private static String lines(Random r) {
        for (int tries = 0; tries < 100; tries++) {
            StringBuilder s = new StringBuilder();
            for (int k = r.nextInt(3); k >= 0; k--) {
                if (s.length() > 0) s.append(';');
                if (r.nextInt(2) == 0) s.append(level(r, 0, 0)).append('?');
                s.append(level(r, 0, 0));
            }
            if (s.length() <= 120 && PlainLaw.fault(s.toString()) < 0) return s.toString();
        }
        return "6";
    }

    private static String level(Random r, int level, int depth) {
        String[] joints = {"|", "&", "<=>", "+-", "*/%"};
        if (level == 5) return operand(r, depth);
        StringBuilder s = new StringBuilder(level(r, level + 1, depth));
        int most = level == 2 ? 1 : 2;
        for (int k = 0; k < most && r.nextInt(5) == 0; k++) {
            s.append(joints[level].charAt(r.nextInt(joints[level].length()))).append(level(r, level + 1, depth));
        }
        return s.toString();
    }

    private static String operand(Random r, int depth) {
        int kind = r.nextInt(depth >= 6 ? 6 : 9);
        if (kind < 3) return String.valueOf(NAMES.charAt(r.nextInt(6)));
        if (kind < 5) return String.valueOf(r.nextInt(13));
        if (kind == 5) return String.valueOf(r.nextInt(4) == 0 ? r.nextInt(10000) : r.nextInt(30));
        if (kind == 6) return "!" + operand(r, depth + 1);
        if (kind == 7) return "-" + operand(r, depth + 1);
        return "(" + level(r, 0, depth + 1) + ")";
    }
}
