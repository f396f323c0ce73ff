/**
 * The document's boundaries of DRAWN, KEPT, RACES, ORDERS, MOMENTS and UNDER WAY
 * (promises 8 to 13), a test for each sentence that names one.
 */
public final class OrderBoundaryTest extends Checks {
    /** Both send five and only then take; the other's last message is taken first. */
    private static final String TURNED = "sABa sABb sABc sABd sABe sBAa sBAb sBAc sBAd sBAe "
            + "tABe tABd tABc tABb tABa tBAe tBAd tBAc tBAb tBAa";
    /** The same, but in the order in which they were sent. */
    private static final String STRAIGHT = "sABa sABb sABc sABd sABe sBAa sBAb sBAc sBAd sBAe "
            + "tABa tABb tABc tABd tABe tBAa tBAb tBAc tBAd tBAe";
    private static final String TO_AND_FRO = "sABa sABb sABc sBAa sBAb tABa tABb tABc tBAa tBAb";

    public static void main(String[] args) {
        drawnOfEachPair();
        drawnAcrossTwenty();
        drawnOfNoEvent();
        keptOfNoEventOrWay();
        sendsAreKeptBehindAll();
        takesAreNotKeptBehindSends();
        keptOneAfterAnother();
        rowsOfOnePart();
        rowsOfTwoParts();
        rowsTheOtherWayAbout();
        rowsWithOthersBetween();
        boxesThroughOthers();
        boxesOfSendsApart();
        boxesKeepWhatRowsKeep();
        racesAtTheirEnds();
        racesByWays();
        racesInOrder();
        racesOfNone();
        ordersAtTheirEnds();
        ordersBeyondAnInt();
        momentsNoneAndAll();
        momentsAtTheirEnds();
        mostAndLeast();
        mostIsOfMomentsNobodyTold();
        leastIsOfTheBestOrder();
        underWhat();
        finish("the boundaries of orders hold");
    }

    private static void relation(DrawnTalks x, int way, String[] rows) {
        for (int e = 0; e < rows.length; e++) {
            for (int f = 0; f < rows.length; f++) {
                int want = rows[e].charAt(f) - '0';
                if (way < 0) {
                    due("drawn(0, " + e + ", " + f + ")", x.drawn(0, e, f), want);
                } else {
                    due("kept(0, " + way + ", " + e + ", " + f + ")", x.kept(0, way, e, f), want);
                }
            }
        }
    }

    // DRAWN: "an EVENT and the next of its LINE; a send and its take", "one after another"
    private static void drawnOfEachPair() {
        relation(with("sABa sCBb tCBb tABa sBDc tBDc"), -1,
                new String[] {"000111", "001111", "000111", "000011", "000001", "000000"});
        relation(with("sABa sBAb tABa tBAb"), -1, new String[] {"0011", "0011", "0000", "0000"});
        relation(with("sABa tABa sCDa tCDa"), -1, new String[] {"0100", "0000", "0001", "0000"});
        relation(with("sABa tABa sBCa tBCa sCDa tCDa"), -1,
                new String[] {"011111", "001111", "000111", "000011", "000001", "000000"});
    }

    private static void drawnAcrossTwenty() {
        DrawnTalks x = with(ten("sABa tABa"), ten("sABa") + " " + ten("tABa"));
        due("the first ahead of the last", x.drawn(0, 0, 19), 1);
        due("the last is not ahead of the first", x.drawn(0, 19, 0), 0);
        due("the last sends ahead of their own takes alone", x.drawn(1, 9, 18), 0);
        due("the last send ahead of its take", x.drawn(1, 9, 19), 1);
        due("the first take is not ahead of the last send", x.drawn(0, 1, 18), 0);
        due("the last is not ahead of itself", x.drawn(0, 19, 19), 0);
    }

    private static void drawnOfNoEvent() {
        DrawnTalks x = with("sABa tABa", ten("sABa tABa"));
        for (int none : new int[] {LOW, LOW + 1, -32, -1, 2, 3, 32, HIGH}) {
            due("drawn e " + none, x.drawn(0, none, 1), BAD);
            due("drawn f " + none, x.drawn(0, 0, none), BAD);
            due("drawn e and f " + none, x.drawn(0, none, none), BAD);
        }
        due("drawn 19", x.drawn(1, 0, 19), 1);
        due("drawn 20", x.drawn(1, 0, 20), BAD);
        due("drawn from 20", x.drawn(1, 20, 0), BAD);
        due("drawn of another talk's event", x.drawn(0, 0, 19), BAD);
    }

    private static void keptOfNoEventOrWay() {
        DrawnTalks x = with("sABa tABa", ten("sABa tABa"));
        for (int none : new int[] {LOW, LOW + 1, -32, -1, 2, 3, 32, HIGH}) {
            due("kept e " + none, x.kept(0, 0, none, 1), BAD);
            due("kept f " + none, x.kept(0, 1, 0, none), BAD);
            due("kept e and f " + none, x.kept(0, 2, none, none), BAD);
        }
        for (int way : new int[] {LOW, -1, 3, 4, HIGH}) {
            due("kept way " + way, x.kept(0, way, 0, 1), BAD);
            due("race way " + way, x.race(0, way, -1), BAD);
        }
        for (int way = 0; way < 3; way++) {
            due("kept by " + way, x.kept(0, way, 0, 1), 1);
            due("kept by " + way + ", 19", x.kept(1, way, 0, 19), 1);
            due("kept by " + way + ", 20", x.kept(1, way, 0, 20), BAD);
        }
    }

    // KEPT: "on one LINE any EVENT and a send drawn behind it"
    private static void sendsAreKeptBehindAll() {
        DrawnTalks x = with("sABa sCBb tABa tCBb sBAc tBAc sABd tABd");
        for (int way = 0; way < 3; way++) {
            due("a send and a send", x.kept(0, way, 0, 6), 1);
            due("a take and the next send", x.kept(0, way, 3, 4), 1);
            due("a take and a later send", x.kept(0, way, 2, 4), 1);
            due("a send is not kept behind itself", x.kept(0, way, 4, 4), 0);
            due("nor ahead of what is ahead of it", x.kept(0, way, 4, 2), 0);
        }
        x = with("sABa sCDa tABa tCDa");
        due("not on two lines", x.kept(0, 2, 0, 1), 0);
    }

    private static void takesAreNotKeptBehindSends() {
        DrawnTalks x = with("sABa sBAb tABa tBAb");
        for (int way = 0; way < 3; way++) {
            relation(x, way, new String[] {"0010", "0001", "0000", "0000"});
        }
        x = with("sABa sCAb tABa tCAb");
        for (int way = 0; way < 3; way++) {
            due("a send, then a take from elsewhere", x.kept(0, way, 0, 3), 0);
        }
    }

    // KEPT: "likewise by these, again and again"
    private static void keptOneAfterAnother() {
        DrawnTalks x = with("sABa tABa sBCb tBCb sCDc tCDc sDAd tDAd");
        for (int way = 0; way < 3; way++) {
            for (int e = 0; e < 8; e++) {
                for (int f = 0; f < 8; f++) {
                    due("round all parts, " + e + " " + f, x.kept(0, way, e, f), e < f ? 1 : 0);
                }
            }
        }
    }

    // KEPT, WAY 1: "if both are from the same PART, and their sends stand in that order on its LINE"
    private static void rowsOfOnePart() {
        DrawnTalks x = with("sABa sABb sABc tABa tABb tABc");
        String[] any = {"011111", "001011", "000001", "000000", "000000", "000000"};
        String[] rows = {"011111", "001011", "000001", "000011", "000001", "000000"};
        relation(x, 0, any);
        relation(x, 1, rows);
        relation(x, 2, rows);
    }

    private static void rowsOfTwoParts() {
        DrawnTalks x = with("sACa tACa sBCb tBCb", "sACa sBCb tACa tBCb");
        for (int way = 0; way < 3; way++) {
            due("from two parts, " + way, x.kept(0, way, 1, 3), 0);
            due("from two parts under way, " + way, x.kept(1, way, 2, 3), 0);
        }
    }

    private static void rowsTheOtherWayAbout() {
        DrawnTalks x = with("sABa sABb tABb tABa");
        for (int way = 0; way < 3; way++) {
            due("the second first, " + way, x.kept(0, way, 2, 3), 0);
            due("as they were sent, " + way, x.kept(0, way, 3, 2), 0);
        }
    }

    private static void rowsWithOthersBetween() {
        DrawnTalks x = with("sACa sBCb sACc tACa tBCb tACc");
        due("any: over another's", x.kept(0, 0, 3, 5), 0);
        due("rows: over another's", x.kept(0, 1, 3, 5), 1);
        due("rows: the other's ahead", x.kept(0, 1, 3, 4), 0);
        due("rows: the other's behind", x.kept(0, 1, 4, 5), 0);
        due("boxes: over another's", x.kept(0, 2, 3, 5), 1);
    }

    // KEPT, WAY 2: "if the send of the first is KEPT ahead of the send of the second"
    private static void boxesThroughOthers() {
        DrawnTalks x = with("sADa sABb tABb sBCc tBCc sCDd tADa tCDd");
        due("any: through two parts", x.kept(0, 0, 6, 7), 0);
        due("rows: through two parts", x.kept(0, 1, 6, 7), 0);
        due("boxes: through two parts", x.kept(0, 2, 6, 7), 1);
        due("boxes: not the other way about", x.kept(0, 2, 7, 6), 0);
        x = with("sADa sABb tABb sBDc tBDc tADa");
        due("boxes: taken the other way about", x.kept(0, 2, 4, 5), 0);
    }

    private static void boxesOfSendsApart() {
        DrawnTalks x = with("sABb tABb sACa sBCc tACa tBCc");
        due("boxes: neither send is ahead", x.kept(0, 2, 4, 5), 0);
        x = with("sBAb tBAb sACa sBCc tACa tBCc");
        due("boxes: the second is ahead of none", x.kept(0, 2, 4, 5), 0);
    }

    private static void boxesKeepWhatRowsKeep() {
        DrawnTalks x = with(STRAIGHT, ten("sABa") + " " + ten("tABa"));
        for (int e = 0; e < 20; e++) {
            due("rows and boxes, " + e, x.kept(0, 2, e, 19), x.kept(0, 1, e, 19));
            due("a row of ten by any, " + e, x.kept(1, 0, e, 19), e < 10 ? 1 : 0);
            due("a row of ten by rows, " + e, x.kept(1, 1, e, 19), e < 19 ? 1 : 0);
            due("a row of ten by boxes, " + e, x.kept(1, 2, e, 19), e < 19 ? 1 : 0);
        }
    }

    // Promise 10: "how many (k = -1), the k-th: 32 times the first EVENT and the second. BAD (no k-th one, too)"
    private static void racesAtTheirEnds() {
        DrawnTalks x = with(TURNED);
        for (int way = 0; way < 3; way++) {
            due("races", x.race(0, way, -1), 70);
            due("race 0", x.race(0, way, 0), 15);
            due("race 4", x.race(0, way, 4), 19);
            due("race 5", x.race(0, way, 5), 32 + 15);
            due("race 25", x.race(0, way, 25), 5 * 32 + 10);
            due("race 49", x.race(0, way, 49), 9 * 32 + 14);
            due("race 50", x.race(0, way, 50), 10 * 32 + 11);
            due("race 59", x.race(0, way, 59), 13 * 32 + 14);
            due("race 60", x.race(0, way, 60), 15 * 32 + 16);
            due("race 69", x.race(0, way, 69), 18 * 32 + 19);
            for (int k : new int[] {LOW, LOW + 1, -3, -2, 70, 71, 256, HIGH}) {
                due("race " + k, x.race(0, way, k), BAD);
            }
        }
    }

    private static void racesByWays() {
        DrawnTalks x = with(STRAIGHT, "sADa sABb tABb sBDc tADa tBDc");
        due("straight, by any", x.race(0, 0, -1), 70);
        due("straight, by rows", x.race(0, 1, -1), 50);
        due("straight, by boxes", x.race(0, 2, -1), 50);
        due("straight, the last by rows", x.race(0, 1, 49), 9 * 32 + 14);
        due("straight, none behind it", x.race(0, 1, 50), BAD);
        due("through another, by any", x.race(1, 0, 0), 4 * 32 + 5);
        due("through another, by rows", x.race(1, 1, 0), 4 * 32 + 5);
        due("through another, by boxes", x.race(1, 2, -1), 0);
        due("through another, by boxes, 0", x.race(1, 2, 0), BAD);
    }

    // RACES: "in order by the first EVENT, then the second"
    private static void racesInOrder() {
        DrawnTalks x = with("sDCa sBAa sBAb sDCb tDCb tBAb tDCa tBAa sADa sDAa tADa tDAa");
        int[][] want = {{0, 10}, {3, 10}, {4, 6}, {5, 7}, {5, 11}, {7, 11}, {8, 11}, {9, 10}};
        due("how many", x.race(0, 0, -1), want.length);
        for (int k = 0; k < want.length; k++) {
            due("race " + k + " of four lines", x.race(0, 0, k), 32 * want[k][0] + want[k][1]);
        }
        due("no more", x.race(0, 0, want.length), BAD);
    }

    private static void racesOfNone() {
        DrawnTalks x = with("sABa tABa sBAa tBAa", "");
        for (int way = 0; way < 3; way++) {
            due("none", x.race(0, way, -1), 0);
            due("none, 0", x.race(0, way, 0), BAD);
            due("of an empty talk", x.race(1, way, -1), 0);
            due("of an empty talk, 0", x.race(1, way, 0), BAD);
        }
    }

    // Promise 11
    private static void ordersAtTheirEnds() {
        DrawnTalks x = with("", "sABa tABa", "sABa sABa tABa tABa", "sABa tABa sCDa tCDa");
        due("of none", x.orders(0), 1);
        due("of one message", x.orders(1), 1);
        due("of a row of two", x.orders(2), 2);
        due("of two apart", x.orders(3), 6);
        x = with("sABa sABb tABb tABa", "sABa tABa sBCa tBCa sCDa tCDa sDAa tDAa", ten("sDCa tDCa"), TURNED);
        due("of two turned", x.orders(0), 1);
        due("round all parts", x.orders(1), 1);
        due("of a row of ten", x.orders(2), 16796);
        due("of ten turned", x.orders(3), 252L * 252L);
        for (int i : new int[] {LOW, -1, 4, HIGH}) {
            due("orders of " + i, x.orders(i), -1L);
        }
    }

    /** Two such talks apart: the orders of each, and all ways to put ten among ten. */
    private static void ordersBeyondAnInt() {
        DrawnTalks x = with(TO_AND_FRO, TO_AND_FRO.replace('A', 'C').replace('B', 'D'));
        due("five to and fro", x.orders(0), 197);
        due("five to and fro, others", x.orders(1), 197);
        due("both", x.behind(0, 1, 2), 20);
        due("orders of both", x.orders(2), 197L * 197L * 184756L);
        due("both, the other first", x.behind(1, 0, 3), 20);
        due("orders of both, the other first", x.orders(3), 7170195604L);
        due("moments of both", x.moments(2), 27 * 27);
    }

    // MOMENTS: "(none, and all, too)"
    private static void momentsNoneAndAll() {
        DrawnTalks x = with("", "sABa tABa", "sABa tABa sBAa tBAa", "sABa tABa sCDa tCDa");
        due("of none", x.moments(0), 1);
        due("of one message", x.moments(1), 3);
        due("to and fro", x.moments(2), 5);
        due("of two apart", x.moments(3), 9);
    }

    // Promise 12
    private static void momentsAtTheirEnds() {
        DrawnTalks x = with(ten("sABa tABa"), TURNED, times(10, "sABa tABa").replace('B', 'D'), TO_AND_FRO);
        due("of a row of ten", x.moments(0), 66);
        due("of ten turned", x.moments(1), 71);
        due("of a row of ten to D", x.moments(2), 66);
        due("of five to and fro", x.moments(3), 27);
        for (int i : new int[] {LOW, -1, 4, HIGH}) {
            due("moments of " + i, x.moments(i), BAD);
        }
        x = with("sABa tABa sBCa tBCa sCDa tCDa sDAa tDAa sACa tACa sBDa tBDa sDBa tDBa sCAa tCAa sADa tADa sBCa tBCa");
        due("ten round all parts", x.moments(0), roundAllParts(x));
    }

    /** Looks at each of the 1296 sets of beginnings of lines: is each event's send in it, too? */
    private static int roundAllParts(DrawnTalks x) {
        int[] size = new int[4];
        int[] part = new int[20];
        int[] place = new int[20];
        int[] send = new int[20];
        for (int e = 0; e < 20; e++) {
            part[e] = x.event(0, e, 1);
            place[e] = size[part[e]]++;
            send[e] = x.event(0, e, 0) == 1 ? x.event(0, e, 4) : e;
        }
        int sum = 0;
        for (int a = 0; a < 6 * 6 * 6 * 6; a++) {
            int[] passed = {a % 6, a / 6 % 6, a / 36 % 6, a / 216};
            boolean is = true;
            for (int e = 0; e < 20; e++) {
                is &= place[e] >= passed[part[e]] || place[send[e]] < passed[part[send[e]]];
            }
            sum += is ? 1 : 0;
        }
        return sum;
    }

    // Promise 13: MOST, LEAST
    private static void mostAndLeast() {
        DrawnTalks x = with("", "sABa tABa", TURNED, STRAIGHT);
        int[][] want = {{0, 0}, {1, 1}, {10, 10}, {10, 6}};
        for (int i = 0; i < 4; i++) {
            due("most of " + i, x.under(i, 0), want[i][0]);
            due("least of " + i, x.under(i, 1), want[i][1]);
        }
    }

    // MOST: "the greatest at any MOMENT"
    private static void mostIsOfMomentsNobodyTold() {
        DrawnTalks x = with(ten("sABa tABa"), "sABa tABa sCDa tCDa", "sABa tABa sBAa tBAa");
        due("all ten at once", x.under(0, 0), 10);
        due("or one by one", x.under(0, 1), 1);
        due("two apart at once", x.under(1, 0), 2);
        due("or one by one", x.under(1, 1), 1);
        due("never two", x.under(2, 0), 1);
    }

    // LEAST: "of ORDERS the least of the greatest that each passes by"
    private static void leastIsOfTheBestOrder() {
        DrawnTalks x = with(ten("sABa") + " " + ten("tABa"), "sABa sABb sABc tABc tABb tABa",
                "sABa sABb tABb tABa sCDa sCDb tCDb tCDa", "sABa sABb sCDa tABb tABa tCDa");
        due("ten, told all at once", x.under(0, 1), 1);
        due("three turned", x.under(1, 1), 3);
        due("two turned, twice apart", x.under(2, 1), 2);
        due("two turned, twice apart, most", x.under(2, 0), 4);
        due("two turned, and one apart", x.under(3, 1), 2);
        due("two turned, and one apart, most", x.under(3, 0), 3);
    }

    private static void underWhat() {
        DrawnTalks x = with("sABa tABa");
        for (int what : new int[] {LOW, -1, 2, 3, HIGH}) {
            due("under what " + what, x.under(0, what), BAD);
        }
        for (int i : new int[] {LOW, -1, 4, HIGH}) {
            due("most of " + i, x.under(i, 0), BAD);
            due("least of " + i, x.under(i, 1), BAD);
        }
    }
}
