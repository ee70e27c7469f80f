import java.util.Random;

/** Draws texts of sequences, right ones and spoilt ones. */
final class Texts {
    private static final String SIGNS = "ABCDEFGTt+-()0123456789 ";

    private Texts() {
    }

    /** A sequence of at most 16 steps and 80 characters. */
    static String sequence(Random r) {
        String text = "";
        do {
            text = draw(r);
        } while (text.length() > 80 || PlainModel.errorOf(text) != null);
        return text;
    }

    /** A sequence, or one with some characters changed, or mere noise. */
    static String any(Random r) {
        String text = r.nextInt(5) == 0 ? "" : draw(r);
        int changes = text.isEmpty() ? r.nextInt(6) : Math.max(0, r.nextInt(5) - 1);
        for (int i = 0; i < changes; i++) {
            int at = r.nextInt(text.length() + 1);
            char sign = SIGNS.charAt(r.nextInt(SIGNS.length()));
            int skip = Math.min(text.length() - at, r.nextInt(2));
            String put = r.nextInt(3) == 0 ? "" : String.valueOf(sign);
            text = text.substring(0, at) + put + text.substring(at + skip);
        }
        return text.length() > 80 ? text.substring(0, 80) : text;
    }

    private static String draw(Random r) {
        int cylinders = 1 + r.nextInt(6);
        int wanted = 1 + r.nextInt(14);
        boolean[] out = new boolean[cylinders];
        StringBuilder text = new StringBuilder();
        for (int i = 0; i < wanted; i++) {
            int kind = r.nextInt(10);
            if (kind < 2) {
                int value = 1 + r.nextInt(r.nextInt(4) == 0 ? 60 : 9);
                text.append(value < 10 && r.nextInt(5) == 0 ? "T0" : "T").append(value);
            } else if (kind < 5 && cylinders > 1) {
                group(r, out, text);
            } else {
                move(r.nextInt(cylinders), out, text);
            }
        }
        for (int c = 0; c < cylinders; c++) {
            if (out[c]) {
                move(c, out, text);
            }
        }
        return text.toString();
    }

    private static void move(int c, boolean[] out, StringBuilder text) {
        out[c] = !out[c];
        text.append((char) ('A' + c)).append(out[c] ? '+' : '-');
    }

    private static void group(Random r, boolean[] out, StringBuilder text) {
        int first = r.nextInt(out.length);
        int second = (first + 1 + r.nextInt(out.length - 1)) % out.length;
        text.append('(');
        for (int c = 0; c < out.length; c++) {
            if (c == first || c == second || r.nextInt(4) == 0) {
                move(c, out, text);
            }
        }
        text.append(')');
    }
}
