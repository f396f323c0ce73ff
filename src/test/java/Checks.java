import java.util.ArrayList;
import java.util.List;

/** What the tests share: the check of an answer, and talks told in brief. */
abstract class Checks {
    static final int BAD = -1;
    static final int STATE = -2;
    static final int FULL = -3;
    static final int LOW = Integer.MIN_VALUE;
    static final int HIGH = Integer.MAX_VALUE;

    private static int wrong = 0;

    static void due(String call, long got, long want) {
        if (got != want) {
            wrong++;
            System.out.println(call + " answered " + got + ", due is " + want);
        }
    }

    static void finish(String well) {
        System.out.println(wrong == 0 ? well : wrong + " answers are not as due");
        if (wrong != 0) {
            System.exit(1);
        }
    }

    static void write(DrawnTalks x, String text) {
        for (int k = 0; k < text.length(); k += 8) {
            String piece = text.substring(k, Math.min(text.length(), k + 8));
            x.type(asLong(0, piece), piece.length());
        }
    }

    /** The bytes of a piece of text, behind those that stand above them. */
    static long asLong(long above, String piece) {
        long v = above;
        for (int c = 0; c < piece.length(); c++) {
            v = v << 8 | piece.charAt(c);
        }
        return v;
    }

    static int tell(DrawnTalks x, int i, String text) {
        x.clear();
        write(x, text);
        return x.talk(i);
    }

    /** What a new object answers to a text. */
    static int told(String text) {
        return tell(new DrawnTalks(), 0, text);
    }

    /** s is send, t is take: "sABa tABa" stands for "send A B a; take A B a;". */
    static String whole(String brief) {
        StringBuilder b = new StringBuilder();
        for (String w : brief.split(" ")) {
            b.append(w.charAt(0) == 's' ? "send " : "take ");
            b.append(w.charAt(1)).append(' ').append(w.charAt(2)).append(' ').append(w.charAt(3)).append("; ");
        }
        return b.toString();
    }

    /** A new object with these talks, told in brief; "" is an empty one. */
    static DrawnTalks with(String... talks) {
        DrawnTalks x = new DrawnTalks();
        for (int i = 0; i < talks.length; i++) {
            String text = talks[i].isEmpty() ? "" : whole(talks[i]);
            int events = talks[i].isEmpty() ? 0 : talks[i].split(" ").length;
            due("talk " + talks[i], tell(x, i, text), events);
        }
        return x;
    }

    static String times(int n, String brief) {
        List<String> row = new ArrayList<>();
        for (int k = 0; k < n; k++) {
            row.add(brief);
        }
        return String.join(" ", row);
    }

    static String ten(String brief) {
        return times(10, brief);
    }
}
