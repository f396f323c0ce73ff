import java.util.ArrayList;
import java.util.List;

/**
 * "Refused, and nothing changes, the first of these: BAD, STATE, FULL": each call is
 * made on one of two objects of the same past, and then both have to answer all
 * questions alike. The same for calls that only ask. And runs of 512 calls.
 */
public final class RefusalTest extends Checks {
    private static final int[] FAR = {LOW, LOW + 1, -257, -17, -2, 256, 257, 1 << 16, HIGH - 1, HIGH};
    private static final int LIMIT = 512;

    private interface Call {
        long on(DrawnTalks x);
    }

    private interface Past {
        DrawnTalks make();
    }

    /** A call of one int, the others being fine. */
    private interface Place {
        long on(DrawnTalks x, int number);
    }

    public static void main(String[] args) {
        talksThatAreNone();
        partsWaysAndEventsThatAreNone();
        whatsThatAreNone();
        mixesAndSetsThatAreNone();
        typeRefused();
        talkRefused();
        behindRefused();
        takeRefused();
        askingChangesNothing();
        changesTouchOneTalkAlone();
        theLastOfAllCalls();
        manyTexts();
        manyTalks();
        finish("refused calls change nothing");
    }

    /** Four talks, some of which are stuck or too many together, and a text that is not yet a talk. */
    private static DrawnTalks full() {
        DrawnTalks x = with("sABa sABa sABa sABa sABa sABa tABa tABa tABa tABa tABa tABa sCDc tCDc",
                "sCDb sCDb sCDb sCDb sCDb tCDb tCDb tCDb tCDb tCDb", "sABa sABb tABb tABa", "sDAh tDAh");
        write(x, "send B D g;  ");
        return x;
    }

    private static DrawnTalks fullText() {
        DrawnTalks x = with("sABa tABa");
        write(x, "send B D g;  take B D g;" + " ".repeat(274));
        due("298 bytes", x.count(1), 298);
        return x;
    }

    /** Everything that an object answers, its text last. */
    private static List<Long> portrait(DrawnTalks x) {
        List<Long> all = new ArrayList<>();
        all.add((long) x.count(0));
        all.add((long) x.count(1));
        for (int i = 0; i < 4; i++) {
            all.add((long) x.about(i, 1));
            all.add((long) x.about(i, 2));
            all.add(x.orders(i));
            all.add((long) x.race(i, 0, -1));
            for (int e = 0; e < x.about(i, 0); e++) {
                for (int what = 0; what < 5; what++) {
                    all.add((long) x.event(i, e, what));
                }
            }
            for (int p = 0; p < 4; p++) {
                all.add((long) x.line(i, p, -1));
                all.add((long) x.line(i, p, 1));
            }
        }
        all.add((long) x.mixes(15, 0));
        all.add((long) x.mixes(15, 2));
        all.add((long) x.play(5, 0));
        if (x.count(1) < 290) {
            write(x, "take B D g;");
        }
        all.add((long) x.talk(3));
        all.add((long) x.event(3, 1, 3));
        all.add((long) x.count(1));
        return all;
    }

    /** The call answers what is due, and leaves everything as it was. */
    private static void leavesAll(String call, Past past, Call c, long want) {
        DrawnTalks x = past.make();
        due(call, c.on(x), want);
        due(call + ", and again", c.on(x), want);
        due(call + " changes nothing", portrait(x).equals(portrait(past.make())) ? 1 : 0, 1);
    }

    private static void refused(String call, Call c, long want) {
        leavesAll(call, RefusalTest::full, c, want);
    }

    private static void refusedAt(String call, int[] near, Place place) {
        for (int n : near) {
            refused(call + " " + n, x -> place.on(x, n), BAD);
        }
        for (int n : FAR) {
            due(call + " " + n, place.on(full(), n), BAD);
        }
    }

    private static void talksThatAreNone() {
        int[] near = {-1, 4};
        refusedAt("talk", near, (x, i) -> x.talk(i));
        refusedAt("about i", near, (x, i) -> x.about(i, 0));
        refusedAt("event i", near, (x, i) -> x.event(i, 0, 0));
        refusedAt("line i", near, (x, i) -> x.line(i, 0, -1));
        refusedAt("drawn i", near, (x, i) -> x.drawn(i, 0, 1));
        refusedAt("kept i", near, (x, i) -> x.kept(i, 0, 0, 1));
        refusedAt("race i", near, (x, i) -> x.race(i, 0, -1));
        refusedAt("orders", near, (x, i) -> x.orders(i));
        refusedAt("moments", near, (x, i) -> x.moments(i));
        refusedAt("under i", near, (x, i) -> x.under(i, 0));
        refusedAt("alike i", near, (x, i) -> x.alike(i, 0));
        refusedAt("alike j", near, (x, i) -> x.alike(0, i));
        refusedAt("alike i and j", near, (x, i) -> x.alike(i, i));
        refusedAt("behind i", near, (x, i) -> x.behind(i, 3, 1));
        refusedAt("behind j", near, (x, i) -> x.behind(3, i, 1));
        refusedAt("behind to", near, (x, i) -> x.behind(3, 3, i));
        refusedAt("take to", near, (x, i) -> x.take(255, i));
    }

    private static void partsWaysAndEventsThatAreNone() {
        refusedAt("line part", new int[] {-1, 4}, (x, p) -> x.line(0, p, -1));
        refusedAt("line k", new int[] {7, 8}, (x, k) -> x.line(0, 0, k));
        refusedAt("event e", new int[] {-1, 14}, (x, e) -> x.event(0, e, 0));
        refusedAt("drawn e", new int[] {-1, 14}, (x, e) -> x.drawn(0, e, 1));
        refusedAt("drawn f", new int[] {-1, 14}, (x, f) -> x.drawn(0, 0, f));
        refusedAt("kept e", new int[] {-1, 14}, (x, e) -> x.kept(0, 1, e, 1));
        refusedAt("kept f", new int[] {-1, 14}, (x, f) -> x.kept(0, 1, 0, f));
        refusedAt("kept way", new int[] {-1, 3}, (x, way) -> x.kept(0, way, 0, 1));
        refusedAt("race way", new int[] {-1, 3}, (x, way) -> x.race(0, way, -1));
        refusedAt("race k", new int[] {15, 16}, (x, k) -> x.race(0, 0, k));
    }

    private static void whatsThatAreNone() {
        refusedAt("about what", new int[] {-1, 3}, (x, what) -> x.about(0, what));
        refusedAt("event what", new int[] {-1, 5}, (x, what) -> x.event(0, 0, what));
        refusedAt("under what", new int[] {-1, 2}, (x, what) -> x.under(0, what));
        refusedAt("play what", new int[] {-1, 3}, (x, what) -> x.play(0, what));
        refusedAt("mixes what", new int[] {-1, 3}, (x, what) -> x.mixes(15, what));
        refusedAt("count what", new int[] {-1, 2}, (x, what) -> x.count(what));
        refusedAt("type n", new int[] {-1, 0, 9}, (x, n) -> x.type(0x61, n));
    }

    private static void mixesAndSetsThatAreNone() {
        refusedAt("play mix", new int[] {-1, 256}, (x, mix) -> x.play(mix, 0));
        refusedAt("take mix", new int[] {-1, 256}, (x, mix) -> x.take(mix, 0));
        refusedAt("mixes set", new int[] {-1, 0, 16}, (x, set) -> x.mixes(set, 0));
        refusedAt("fresh set", new int[] {-1, 0, 16}, (x, set) -> x.fresh(set, 0));
        refusedAt("fresh k", new int[] {-1, 99}, (x, k) -> x.fresh(15, k));
    }

    private static void typeRefused() {
        leavesAll("type of three", RefusalTest::fullText, x -> x.type(0x616161, 3), FULL);
        leavesAll("type of eight", RefusalTest::fullText, x -> x.type(-1, 8), FULL);
        leavesAll("type of nine", RefusalTest::fullText, x -> x.type(-1, 9), BAD);
        leavesAll("type of none", RefusalTest::fullText, x -> x.type(-1, 0), BAD);
    }

    private static void talkRefused() {
        for (int i = 0; i < 4; i++) {
            int to = i;
            refused("talk of what is not taken, to " + i, x -> x.talk(to), -23);
        }
        String[] faults = {"?", "send A B a;send A", "send A A", "take A B a", "send A B a;take A B a;;"};
        int[] want = {-10, -27, -17, -19, -32};
        for (int k = 0; k < faults.length; k++) {
            String text = faults[k];
            DrawnTalks x = full();
            due("talk of " + text, tell(x, 0, text), want[k]);
            due("the text stays", x.clear(), text.length());
            write(x, "send B D g;  ");
            due(text + " changes no talk", portrait(x).equals(portrait(full())) ? 1 : 0, 1);
        }
    }

    private static void behindRefused() {
        for (int to = 0; to < 4; to++) {
            int at = to;
            refused("behind, twelve, to " + to, x -> x.behind(0, 1, at), FULL);
            refused("behind, fourteen, to " + to, x -> x.behind(0, 0, at), FULL);
        }
        refused("behind, twelve, to none", x -> x.behind(0, 1, 4), BAD);
        refused("behind, twelve, to less than none", x -> x.behind(1, 0, -1), BAD);
    }

    private static void takeRefused() {
        for (int to = 0; to < 4; to++) {
            int at = to;
            refused("take of eleven, to " + to, x -> x.take(5, at), FULL);
            refused("take of a stuck one, to " + to, x -> x.take(170, at), STATE);
            refused("take of a stuck one that is too long, to " + to, x -> x.take(4 + 2, at), STATE);
        }
        refused("take of eleven, to none", x -> x.take(5, 4), BAD);
        refused("take of a stuck one, to none", x -> x.take(170, -1), BAD);
    }

    private static void asks(String call, Call c) {
        leavesAll(call, RefusalTest::full, c, c.on(full()));
    }

    private static void askingChangesNothing() {
        asks("about", x -> x.about(0, 2));
        asks("event", x -> x.event(0, 13, 4));
        asks("line", x -> x.line(0, 0, 5));
        asks("drawn", x -> x.drawn(0, 0, 13));
        for (int way = 0; way < 3; way++) {
            int by = way;
            asks("kept", x -> x.kept(0, by, 0, 11));
            asks("race", x -> x.race(0, by, -1));
            asks("race 0", x -> x.race(2, by, 0));
        }
        asks("orders", x -> x.orders(0));
        asks("moments", x -> x.moments(0));
        asks("most", x -> x.under(2, 0));
        asks("least", x -> x.under(2, 1));
        asks("alike", x -> x.alike(0, 1));
        for (int what = 0; what < 3; what++) {
            int of = what;
            asks("play", x -> x.play(5, of));
            asks("play of a stuck one", x -> x.play(2, of));
            asks("mixes", x -> x.mixes(15, of));
        }
        asks("fresh", x -> x.fresh(15, 0));
        asks("count(0)", x -> x.count(0));
        asks("count(1)", x -> x.count(1));
    }

    /** A talk that is made of others leaves those, and the text, as they are. */
    private static void changesTouchOneTalkAlone() {
        DrawnTalks x = full();
        due("behind", x.behind(2, 1, 3), 14);
        due("take", x.take(0, 3), 14);
        due("the talk that was there again", x.behind(3, 3, 3), FULL);
        due("a talk", tell(x, 3, "send D A h; take D A h;"), 2);
        write(x, "send B D g;  ");
        due("the others are as they were", portrait(x).equals(portrait(full())) ? 1 : 0, 1);
    }

    // "An object is used for at most 512 calls after it has been made"
    private static void theLastOfAllCalls() {
        String text = "send A B a;take A B a;send C D a;take C D a;";
        DrawnTalks x = new DrawnTalks();
        for (int k = 0; k < LIMIT - 8; k++) {
            due("a fault, call " + k, k % 2 == 0 ? x.type('?', 1) : x.talk(k / 2 % 4), k % 2 == 0 ? k / 2 + 1 : -10);
        }
        due("clear", x.clear(), LIMIT / 2 - 4);
        write(x, text);
        due("call 512", x.talk(0), 4);
        Call[] last = {y -> y.orders(0), y -> y.moments(0), y -> y.under(0, 0), y -> y.race(0, 2, -1), y -> y.mixes(15, 0),
            y -> y.fresh(3, 0), y -> y.take(80, 3), y -> y.behind(0, 0, 1), y -> y.play(0, 0), y -> y.drawn(0, 0, 1)};
        long[] want = {6, 9, 2, 0, 4, 5, 2, 8, 4, 1};
        for (int c = 0; c < last.length; c++) {
            DrawnTalks y = new DrawnTalks();
            write(y, text);
            y.talk(0);
            for (int k = 8; k <= LIMIT; k++) {
                due("call " + k + ", question " + c, last[c].on(y), want[c]);
            }
        }
    }

    private static void manyTexts() {
        DrawnTalks x = new DrawnTalks();
        for (int k = 0; k < LIMIT / 2; k++) {
            due("one byte", x.type(' ', 1), 1);
            due("is cleared", x.clear(), 1);
        }
        x = new DrawnTalks();
        for (int k = 0; k < LIMIT; k++) {
            due("byte " + k, x.type(' ', 1), k < 300 ? k + 1 : FULL);
        }
    }

    private static void manyTalks() {
        DrawnTalks x = with("sABa tABa", "sCDb tCDb sDCc tDCc");
        for (int k = 0; k < 100; k++) {
            due("behind", x.behind(0, 1, 2), 6);
            due("behind itself", x.behind(2, 0, 2), 8);
            due("played", x.take(170, 3), 8);
            due("the same", x.alike(2, 3), 1);
        }
        due("events in the end", x.count(0), 2 + 4 + 8 + 8);
    }
}
