/**
 * The document's boundaries of two TALKS, of MIXES and of the counts (promises 14
 * to 20), a test for each sentence that names one.
 */
public final class MixBoundaryTest extends Checks {
    private static final String NINE = times(9, "sABa") + " " + times(9, "tABa");

    public static void main(String[] args) {
        alikeWhateverTheOrder();
        notAlike();
        notAlikeBeginnings();
        behindTenMessages();
        behindMoreThanTen();
        behindNone();
        behindToItself();
        behindKeepsEachItsOwn();
        mixNumbers();
        theFirstPartThatCan();
        aTakeWaitsForItsName();
        leftOver();
        linesThatDoNotEnd();
        onePartAlone();
        theLongestPlay();
        playOfEmptyTalks();
        setNumbers();
        sameLinesButOnce();
        emptyLinesAreTheSame();
        allMixesOfFour();
        newOfThisSetAlone();
        aTalkThatIsStuck();
        freshAtItsEnds();
        freshIsTheFirstOfItsLines();
        takeAsPlayed();
        takeToItsOwnTalk();
        takeOfNothing();
        takeOfTenMessages();
        takeOfMoreThanTen();
        takeOfStuckOnes();
        countAtItsEnds();
        finish("the boundaries of mixes hold");
    }

    // Promise 14; ALIKE: "whose PARTS have the same LINES"
    private static void alikeWhateverTheOrder() {
        DrawnTalks x = with("sABa sCDb tABa tCDb", "sCDb tCDb sABa tABa", ten("sABa tABa"), ten("sABa") + " " + ten("tABa"));
        due("other orders", x.alike(0, 1), 1);
        due("and back", x.alike(1, 0), 1);
        due("ten in other orders", x.alike(2, 3), 1);
        for (int i = 0; i < 4; i++) {
            due("a talk and itself", x.alike(i, i), 1);
        }
        due("one and ten", x.alike(0, 2), 0);
        x = with("", "", "sABa tABa");
        due("two empty ones", x.alike(0, 1), 1);
        due("an empty one and one", x.alike(0, 2), 0);
        due("one and an empty one", x.alike(2, 0), 0);
    }

    // ALIKE: "(send or take, the other PART, NAME)"
    private static void notAlike() {
        DrawnTalks x = with("sABa tABa sBAa tBAa", "sBAa tBAa sABa tABa", "sABa sBAa tABa tBAa");
        due("send or take, on both lines", x.alike(0, 1), 0);
        due("send or take, on one line", x.alike(0, 2), 0);
        x = with("sABa tABa sACa tACa", "sACa tACa sABa tABa", "sABa sACa tACa tABa");
        due("the other part", x.alike(0, 1), 0);
        due("the same but for the order of takes elsewhere", x.alike(0, 2), 1);
        x = with("sABa tABa", "sABb tABb", "sABh tABh");
        due("name", x.alike(0, 1), 0);
        due("name, the last", x.alike(1, 2), 0);
        x = with("sABa sABb tABa tABb", "sABa sABb tABb tABa", "sCDa tCDa", "sCDb tCDb");
        due("the order of names on the second line", x.alike(0, 1), 0);
        due("of the last parts", x.alike(2, 3), 0);
    }

    private static void notAlikeBeginnings() {
        DrawnTalks x = with("sABa tABa", "sABa tABa sABa tABa", "sABa tABa sCDa tCDa", ten("sABa tABa"));
        due("the beginning of longer lines", x.alike(0, 1), 0);
        due("and back", x.alike(1, 0), 0);
        due("lines of other parts", x.alike(0, 2), 0);
        due("and back", x.alike(2, 0), 0);
        due("of ten", x.alike(1, 3), 0);
    }

    // Promise 15: "FULL: more than 10 messages"
    private static void behindTenMessages() {
        for (int n = 0; n <= 10; n++) {
            DrawnTalks x = with(n == 0 ? "" : times(n, "sABa tABa"), n == 10 ? "" : times(10 - n, "sCDb tCDb"));
            due(n + " and the rest of ten", x.behind(0, 1, 2), 20);
            due(n + " and the rest of ten: messages", x.about(2, 1), 10);
            due(n + " and the rest of ten, back", x.behind(1, 0, 3), 20);
            due("alike", x.alike(2, 3), 1);
        }
    }

    private static void behindMoreThanTen() {
        for (int n = 1; n <= 10; n++) {
            DrawnTalks x = with(times(n, "sABa tABa"), times(11 - n, "sCDb tCDb"), "sDAc tDAc");
            due("eleven", x.behind(0, 1, 2), FULL);
            due("eleven, back", x.behind(1, 0, 2), FULL);
            due("eleven, to the one", x.behind(0, 1, 0), FULL);
            due("eleven, to the other", x.behind(0, 1, 1), FULL);
            due("the one stays", x.about(0, 1), n);
            due("the other stays", x.about(1, 1), 11 - n);
            due("the third stays", x.event(2, 0, 3), 2);
            due("BAD ahead of FULL", x.behind(0, 1, 4), BAD);
            due("BAD ahead of FULL, -1", x.behind(0, 1, -1), BAD);
        }
        DrawnTalks x = with(ten("sABa tABa"));
        due("twice ten", x.behind(0, 0, 1), FULL);
        due("twice ten to itself", x.behind(0, 0, 0), FULL);
        due("ten and none", x.behind(0, 1, 0), 20);
    }

    private static void behindNone() {
        DrawnTalks x = with("sABa tABa", "", "", "sCDb tCDb");
        due("none behind one", x.behind(0, 1, 2), 2);
        due("is that one", x.alike(0, 2), 1);
        due("one behind none", x.behind(1, 0, 3), 2);
        due("is that one, too", x.alike(0, 3), 1);
        due("none behind none", x.behind(1, 1, 0), 0);
        due("is none", x.about(0, 0), 0);
    }

    private static void behindToItself() {
        DrawnTalks x = with("sABa tABa", "sBCb sBCc tBCb tBCc");
        due("to the one", x.behind(0, 1, 0), 6);
        due("its first", x.event(0, 0, 1), 0);
        due("its third", x.event(0, 2, 3), 1);
        due("to the other", x.behind(0, 1, 1), 10);
        due("its first", x.event(1, 0, 1), 0);
        due("its seventh", x.event(1, 6, 3), 1);
        due("its last is taken from", x.event(1, 9, 4), 7);
        due("the one stays", x.about(0, 0), 6);
        x = with("", "", "sABa tABa");
        due("twice, to itself", x.behind(2, 2, 2), 4);
        due("again", x.behind(2, 2, 2), 8);
        due("again", x.behind(2, 2, 2), 16);
        due("not again", x.behind(2, 2, 2), FULL);
        due("eight messages", x.about(2, 1), 8);
    }

    // BEHIND: "EVENTS: all of the one, then those of the other one"
    private static void behindKeepsEachItsOwn() {
        DrawnTalks x = with("sABa sABb tABb tABa", "sABb sBAa tABb tBAa");
        due("behind", x.behind(0, 1, 3), 8);
        int[] mates = {3, 2, 1, 0, 6, 7, 4, 5};
        int[] names = {0, 1, 1, 0, 1, 0, 1, 0};
        int[] parts = {0, 0, 1, 1, 0, 1, 1, 0};
        for (int e = 0; e < 8; e++) {
            due("mate of " + e, x.event(3, e, 4), mates[e]);
            due("name of " + e, x.event(3, e, 3), names[e]);
            due("part of " + e, x.event(3, e, 1), parts[e]);
        }
        due("the line of A", x.line(3, 0, -1), 4);
        due("the line of A, 2", x.line(3, 0, 2), 4);
        due("the line of B, 2", x.line(3, 1, 2), 5);
    }

    // Promise 16: "A MIX (0 .. 255)"; MIX: "to the base of 4, PART A's TALK the highest"
    private static void mixNumbers() {
        DrawnTalks x = with("", "sABa tABa sCDa tCDa", "sABb sABb tABb tABb sCDb sCDb tCDb tCDb",
                "sABc sABc sABc tABc tABc tABc sCDc sCDc sCDc tCDc tCDc tCDc");
        for (int talk = 0; talk < 4; talk++) {
            due("A sends its own", x.play(64 * talk, 0), talk);
            due("A's are left over", x.play(64 * talk, 2), talk);
            due("B takes nothing", x.play(16 * talk, 0), 0);
            due("C sends its own", x.play(4 * talk, 0), talk);
            due("D takes nothing", x.play(talk, 0), 0);
            due("A and B", x.play(80 * talk, 0), 2 * talk);
            due("C and D", x.play(5 * talk, 0), 2 * talk);
            due("all", x.play(85 * talk, 0), 4 * talk);
            due("all end", x.play(85 * talk, 1), 1);
        }
        due("the last mix", x.play(255, 0), 12);
        for (int mix : new int[] {LOW, LOW + 255, -256, -1, 256, 257, 511, 1024, HIGH}) {
            due("mix " + mix, x.play(mix, 1), BAD);
            due("take of mix " + mix, x.take(mix, 0), BAD);
        }
        for (int what : new int[] {LOW, -1, 3, 4, HIGH}) {
            due("play what " + what, x.play(0, what), BAD);
        }
    }

    // PLAYED: "again and again the first PART (A .. D) that can does its next EVENT"
    private static void theFirstPartThatCan() {
        DrawnTalks x = with("sDCa sDCb tDCa sCAc tDCb tCAc sBAd tBAd sABe tABe");
        due("it ends", x.take(0, 1), 10);
        int[] parts = {1, 3, 2, 2, 0, 0, 0, 1, 3, 2};
        int[] names = {3, 0, 0, 2, 2, 3, 4, 4, 1, 1};
        for (int e = 0; e < 10; e++) {
            due("who does event " + e, x.event(1, e, 1), parts[e]);
            due("name of event " + e, x.event(1, e, 3), names[e]);
        }
        due("the same lines", x.alike(0, 1), 1);
    }

    // PLAYED: "a take, if of what the other PART sent to it, and it has not taken, the first has that NAME"
    private static void aTakeWaitsForItsName() {
        DrawnTalks x = with("sABa sABb tABb tABa", "sACa sBCb tBCb tACa", "sABa sABb sABa tABa tABb tABa", "sBAa sABa tABa tBAa");
        due("the second is not the first: done", x.play(0, 0), 2);
        due("the second is not the first: ends", x.play(0, 1), 0);
        due("the second is not the first: left", x.play(0, 2), 2);
        due("of another part: ends", x.play(85, 1), 1);
        due("one behind another: ends", x.play(170, 1), 1);
        due("to the other part: ends", x.play(255, 1), 1);
        due("too few: done", x.play(2 * 64, 0), 3);
        due("A of the third, B of the first: left", x.play(2 * 64, 2), 3);
        due("A of the first, B of the third: done", x.play(2 * 16, 0), 4);
        due("A of the first, B of the third: ends", x.play(2 * 16, 1), 0);
        due("A of the first, B of the third: left", x.play(2 * 16, 2), 0);
    }

    // ENDS: "if all LINES come to their end and nothing is left over"
    private static void leftOver() {
        DrawnTalks x = with("sABa tABa", "", "sABa sABa tABa tABa");
        due("all sent, none taken: done", x.play(16, 0), 1);
        due("all sent, none taken: ends", x.play(16, 1), 0);
        due("all sent, none taken: left", x.play(16, 2), 1);
        due("one of two taken: done", x.play(2 * 64, 0), 3);
        due("one of two taken: ends", x.play(2 * 64, 1), 0);
        due("one of two taken: left", x.play(2 * 64, 2), 1);
        due("STUCK", x.take(2 * 64, 3), STATE);
    }

    private static void linesThatDoNotEnd() {
        DrawnTalks x = with("sABa tABa", "", "sABa sABa tABa tABa", "sBAa tBAa sABa tABa");
        due("nothing sent: done", x.play(64, 0), 0);
        due("nothing sent: ends", x.play(64, 1), 0);
        due("nothing sent: left", x.play(64, 2), 0);
        due("one of two: done", x.play(2 * 16, 0), 2);
        due("one of two: ends", x.play(2 * 16, 1), 0);
        due("one of two: left", x.play(2 * 16, 2), 0);
        due("both wait: done", x.play(3 * 64, 0), 0);
        due("both wait: ends", x.play(3 * 64, 1), 0);
        due("neither waits: done", x.play(3 * 16, 0), 3);
        due("neither waits: left", x.play(3 * 16, 2), 1);
    }

    /** Of each pair of parts: one keeps to its line, all others have an empty one. */
    private static void onePartAlone() {
        int[] weight = {64, 16, 4, 1};
        for (int p = 0; p < 4; p++) {
            for (int q = 0; q < 4; q++) {
                if (p == q) {
                    continue;
                }
                String pair = "" + (char) ('A' + p) + (char) ('A' + q);
                DrawnTalks x = with("", "s" + pair + "a t" + pair + "a");
                due(pair + ", the send alone: done", x.play(weight[p], 0), 1);
                due(pair + ", the send alone: ends", x.play(weight[p], 1), 0);
                due(pair + ", the send alone: left", x.play(weight[p], 2), 1);
                due(pair + ", the take alone: done", x.play(weight[q], 0), 0);
                due(pair + ", the take alone: ends", x.play(weight[q], 1), 0);
                due(pair + ", the take alone: left", x.play(weight[q], 2), 0);
                due(pair + ", the send alone is stuck", x.take(weight[p], 2), STATE);
                due(pair + ", the take alone is stuck", x.take(weight[q], 2), STATE);
                due(pair + ", both end", x.play(weight[p] + weight[q], 1), 1);
                due(pair + ", mixes that end", x.mixes(3, 0), 2);
                due(pair + ", mixes that are stuck", x.mixes(3, 1), 2);
            }
        }
    }

    private static void theLongestPlay() {
        DrawnTalks x = with(ten("sABa tABa"), ten("sBAa tBAa"), ten("sCDa tCDa"), ten("sDCa tDCa"));
        due("twenty end", x.play(0, 0), 20);
        due("forty: done", x.play(0 * 64 + 1 * 16 + 2 * 4 + 3, 0), 40);
        due("forty: ends", x.play(27, 1), 0);
        due("forty: left", x.play(27, 2), 40);
        due("forty that end: done", x.play(10, 0), 40);
        due("forty that end: ends", x.play(10, 1), 1);
        due("forty that end: left", x.play(10, 2), 0);
        due("takes alone: done", x.play(64 + 0 + 12 + 2, 0), 0);
        due("twenty messages are too many", x.take(10, 0), FULL);
    }

    private static void playOfEmptyTalks() {
        DrawnTalks x = with("sABa tABa");
        for (int mix : new int[] {1, 85, 170, 255, 5, 10, 15}) {
            boolean full = mix < 16;
            due("play " + mix + ": done", x.play(mix, 0), full ? 2 : 0);
            due("play " + mix + ": ends", x.play(mix, 1), 1);
            due("play " + mix + ": left", x.play(mix, 2), 0);
        }
    }

    // Promise 17: "a set of TALKS (bits 1 .. 15)"
    private static void setNumbers() {
        DrawnTalks x = with("sABa tABa", "sABb tABb", "sABc tABc", "sABd tABd");
        for (int set : new int[] {LOW, LOW + 1, -16, -15, -1, 0, 16, 17, 31, 256, HIGH}) {
            for (int what = 0; what < 3; what++) {
                due("mixes of set " + set, x.mixes(set, what), BAD);
            }
            due("fresh of set " + set, x.fresh(set, 0), BAD);
        }
        for (int set = 1; set <= 15; set++) {
            int n = Integer.bitCount(set);
            due("ends of set " + set, x.mixes(set, 0), n);
            due("stuck of set " + set, x.mixes(set, 1), n * n - n);
            due("new of set " + set, x.mixes(set, 2), 0);
        }
        for (int what : new int[] {LOW, -1, 3, 4, HIGH}) {
            due("mixes what " + what, x.mixes(15, what), BAD);
        }
    }

    // MIX: "In order of numbers, the first of MIXES of the same LINES alone counts"
    private static void sameLinesButOnce() {
        DrawnTalks x = with("sABa tABa", "sABa tABa", "sABb tABb", "sABb tABb");
        long[][] want = {{3, 1, 0, 0}, {12, 1, 0, 0}, {5, 2, 2, 0}, {10, 2, 2, 0}, {15, 2, 2, 0}, {7, 2, 2, 0}};
        for (long[] w : want) {
            for (int what = 0; what < 3; what++) {
                due("mixes of " + w[0] + ", " + what, x.mixes((int) w[0], what), w[1 + what]);
            }
        }
        x = with("sABa sCDa tABa tCDa", "sCDa tCDa sABa tABa");
        due("alike ones end once", x.mixes(3, 0), 1);
        due("alike ones are not stuck", x.mixes(3, 1), 0);
        due("alike ones are not new", x.mixes(3, 2), 0);
    }

    // Terms: "PARTS without EVENTS in a TALK have an empty LINE there"
    private static void emptyLinesAreTheSame() {
        DrawnTalks x = with("sABa tABa", "sCDa tCDa");
        due("ends", x.mixes(3, 0), 4);
        due("stuck", x.mixes(3, 1), 12);
        due("new", x.mixes(3, 2), 2);
        due("all of them", x.fresh(3, 0), 5);
        due("none of them", x.fresh(3, 1), 80);
        due("an empty talk has those lines, too: ends", x.mixes(7, 0), 4);
        due("an empty talk has those lines, too: new", x.mixes(7, 2), 1);
        due("an empty talk alone: ends", x.mixes(4, 0), 1);
        due("an empty talk alone: stuck", x.mixes(4, 1), 0);
        due("two empty talks: ends", x.mixes(12, 0), 1);
    }

    private static void allMixesOfFour() {
        DrawnTalks x = with("sABa tABa sCDa tCDa", "sABb tABb sCDb tCDb", "sABc tABc sCDc tCDc", "sABd tABd sCDd tCDd");
        due("ends", x.mixes(15, 0), 16);
        due("stuck", x.mixes(15, 1), 240);
        due("new", x.mixes(15, 2), 12);
        int k = 0;
        for (int ab = 0; ab < 4; ab++) {
            for (int cd = 0; cd < 4; cd++) {
                if (ab != cd) {
                    due("new " + k, x.fresh(15, k), 80 * ab + 5 * cd);
                    k++;
                }
            }
        }
        due("no more", x.fresh(15, 12), BAD);
    }

    // NEW: "its LINES are not those of any one of these TALKS"
    private static void newOfThisSetAlone() {
        DrawnTalks x = with("sABa tABa sCDa tCDa", "sABb tABb sCDb tCDb");
        due("new", x.mixes(3, 2), 2);
        due("one comes to a third talk", x.take(5, 2), 4);
        due("that is not of the set: as new as it was", x.mixes(3, 2), 2);
        due("and the first", x.fresh(3, 0), 5);
        due("with it: one is new", x.mixes(7, 2), 1);
        due("with it: the other", x.fresh(7, 0), 80);
        due("with it: no more", x.fresh(7, 1), BAD);
        due("with it: as many end", x.mixes(7, 0), 4);
        due("of the first and it", x.mixes(5, 2), 0);
        due("the other one comes to the fourth", x.take(80, 3), 4);
        due("with both: none is new", x.mixes(15, 2), 0);
        due("of these two: the others are", x.mixes(12, 2), 2);
        due("of these two: the first", x.fresh(12, 0), 2 * 80 + 3 * 5);
    }

    // STUCK: "else"; a drawn talk may be stuck itself, and is then neither ending nor new
    private static void aTalkThatIsStuck() {
        DrawnTalks x = with("sABa sABb tABb tABa");
        due("ends", x.mixes(1, 0), 0);
        due("stuck", x.mixes(1, 1), 1);
        due("new", x.mixes(1, 2), 0);
        due("fresh", x.fresh(1, 0), BAD);
        x = with("sABa sABb tABb tABa sBAc tBAc", "sABb sABa tABa tABb sBAc tBAc");
        due("two that are stuck: ends", x.mixes(3, 0), 2);
        due("two that are stuck: stuck", x.mixes(3, 1), 2);
        due("two that are stuck: new", x.mixes(3, 2), 2);
        due("two that are stuck: the first new one", x.fresh(3, 0), 16);
        due("two that are stuck: the second new one", x.fresh(3, 1), 64);
    }

    // Promise 18: "BAD: no k-th one, too"
    private static void freshAtItsEnds() {
        DrawnTalks x = with("sABa tABa sCDa tCDa", "sABb tABb sCDb tCDb");
        for (int k : new int[] {LOW, LOW + 1, -2, -1, 2, 3, 256, HIGH}) {
            due("fresh k " + k, x.fresh(3, k), BAD);
        }
        due("the first", x.fresh(3, 0), 5);
        due("the last", x.fresh(3, 1), 80);
        for (int set : new int[] {1, 2, 4, 8, 12}) {
            due("none of set " + set, x.fresh(set, 0), BAD);
        }
    }

    private static void freshIsTheFirstOfItsLines() {
        DrawnTalks x = with("sABa tABa sCDa tCDa", "sABa tABa sCDb tCDb", "sABb tABb sCDb tCDb", "sABb tABb sCDb tCDb");
        due("one is new", x.mixes(15, 2), 1);
        due("its lowest number", x.fresh(15, 0), 2 * 80);
        due("of the last two and the first", x.fresh(13, 0), 5 * 2);
        due("of the last two and the first, then", x.fresh(13, 1), 2 * 80);
        due("of the last and the first", x.fresh(9, 0), 5 * 3);
        due("of the last and the first, then", x.fresh(9, 1), 3 * 80);
        due("of the second and the third", x.fresh(6, 0), BAD);
    }

    // Promise 19: "EVENTS as it is PLAYED"
    private static void takeAsPlayed() {
        DrawnTalks x = with("sCDa tCDa sBAb tBAb", "sCDc sCDd tCDc tCDd sABe tABe");
        due("B and A of the first, C and D of the second", x.take(5, 3), 6);
        int[][] want = {{0, 1, 0, 1, 1}, {1, 0, 1, 1, 0}, {0, 2, 3, 2, 4}, {0, 2, 3, 3, 5}, {1, 3, 2, 2, 2}, {1, 3, 2, 3, 3}};
        for (int e = 0; e < 6; e++) {
            for (int what = 0; what < 5; what++) {
                due("event " + e + ", " + what, x.event(3, e, what), want[e][what]);
            }
        }
        due("no more", x.event(3, 6, 0), BAD);
        due("messages", x.about(3, 1), 3);
    }

    private static void takeToItsOwnTalk() {
        DrawnTalks x = with("sCDa tCDa sABa tABa", "sABb tABb sCDb tCDb");
        due("to the talk of A and B", x.take(80, 1), 4);
        due("C's are of the first", x.event(1, 2, 3), 0);
        due("A's are its own", x.event(1, 0, 3), 1);
        due("the first as it is played", x.take(0, 0), 4);
        due("A is first now", x.event(0, 0, 1), 0);
        due("C is third now", x.event(0, 2, 1), 2);
    }

    private static void takeOfNothing() {
        DrawnTalks x = with("sABa tABa", "sCDa tCDa", "");
        due("lines that are all empty", x.take(80, 0), 0);
        due("the talk is empty", x.about(0, 0), 0);
        due("an empty talk", x.take(170, 1), 0);
        due("nothing is left", x.count(0), 0);
    }

    private static void takeOfTenMessages() {
        DrawnTalks x = with(NINE + " sCDa tCDa", "sABa tABa " + NINE.replace('A', 'C').replace('B', 'D'), "sCDb tCDb");
        due("nine and one", x.take(10, 3), 20);
        due("nine and one: messages", x.about(3, 1), 10);
        due("the first of the one", x.event(3, 18, 1), 2);
        due("one and nine", x.take(85, 3), 20);
        due("one and one", x.take(80, 3), 4);
    }

    // Promise 19: "FULL: more than 10 messages"
    private static void takeOfMoreThanTen() {
        DrawnTalks x = with(NINE, "sCDa sCDa tCDa tCDa", "sDAc tDAc");
        due("eleven end", x.play(5, 1), 1);
        for (int to = 0; to < 4; to++) {
            due("eleven to " + to, x.take(5, to), FULL);
        }
        due("the first stays", x.about(0, 1), 9);
        due("the second stays", x.about(1, 1), 2);
        due("the third stays", x.event(2, 0, 3), 2);
        due("the fourth stays", x.about(3, 0), 0);
        due("BAD ahead of FULL", x.take(5, 4), BAD);
        due("BAD ahead of FULL, -1", x.take(5, -1), BAD);
    }

    // Promise 19: "STATE: it is STUCK", ahead of FULL
    private static void takeOfStuckOnes() {
        DrawnTalks x = with(ten("sABa tABa"), ten("sCDa tCDa"), ten("sCDb tCDb"), "");
        due("twenty messages that end", x.take(5, 3), FULL);
        due("twenty messages that are stuck", x.take(4 + 2, 3), STATE);
        due("left over", x.take(3 * 16, 3), STATE);
        due("lines that do not end", x.take(3 * 64, 3), STATE);
        due("nothing comes to it", x.about(3, 0), 0);
        due("nor to its own talk", x.take(4 + 2, 1), STATE);
        due("that stays", x.about(1, 0), 20);
        due("BAD ahead of STATE", x.take(4 + 2, 4), BAD);
        due("BAD ahead of STATE, -1", x.take(4 + 2, -1), BAD);
        due("BAD ahead of STATE, the mix", x.take(256 + 4 + 2, 3), BAD);
    }

    // Promise 20
    private static void countAtItsEnds() {
        DrawnTalks x = with(ten("sABa tABa"), ten("sBCa tBCa"), ten("sCDa tCDa"), ten("sDAa tDAa"));
        due("eighty events", x.count(0), 80);
        due("no bytes", x.count(1), 0);
        write(x, " ".repeat(300));
        due("three hundred bytes", x.count(1), 300);
        due("eighty events still", x.count(0), 80);
        for (int what : new int[] {LOW, -1, 2, 3, HIGH}) {
            due("count what " + what, x.count(what), BAD);
        }
        x.talk(0);
        due("sixty events", x.count(0), 60);
        due("no bytes again", x.count(1), 0);
    }
}
