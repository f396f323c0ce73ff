/** For each promise of the document: ordinary inputs, its edges, wrong inputs. */
public final class PromiseTest extends Checks {
    public static void main(String[] args) {
        newObject();
        type();
        clear();
        talk();
        talkTokens();
        talkFaults();
        about();
        event();
        line();
        drawn();
        kept();
        keptBoxes();
        race();
        orders();
        moments();
        under();
        alike();
        behind();
        play();
        mixes();
        mixesOfSameLines();
        fresh();
        take();
        takeFull();
        count();
        refusalsChangeNothing();
        finish("the promises hold");
    }

    // Promise 1
    private static void newObject() {
        DrawnTalks x = new DrawnTalks();
        due("new: count(0)", x.count(0), 0);
        due("new: count(1)", x.count(1), 0);
        for (int i = 0; i < 4; i++) {
            due("new: about(i, 0)", x.about(i, 0), 0);
            due("new: about(i, 1)", x.about(i, 1), 0);
            due("new: about(i, 2)", x.about(i, 2), 0);
            due("new: orders", x.orders(i), 1);
            due("new: moments", x.moments(i), 1);
            due("new: under", x.under(i, 0), 0);
            due("new: alike", x.alike(0, i), 1);
        }
        due("new: mixes(15, 0)", x.mixes(15, 0), 1);
        due("NONE", DrawnTalks.NONE, -9);
    }

    // Promise 2
    private static void type() {
        DrawnTalks x = new DrawnTalks();
        due("type n 0", x.type(65, 0), BAD);
        due("type n 9", x.type(65, 9), BAD);
        due("type n -1", x.type(65, -1), BAD);
        due("type n low", x.type(65, LOW), BAD);
        due("type n high", x.type(65, HIGH), BAD);
        due("type 1", x.type(32, 1), 1);
        due("type 3", x.type(0x202020, 3), 4);
        for (int k = 0; k < 36; k++) {
            due("type 8", x.type(0x2020202020202020L, 8), 12 + 8 * k);
        }
        due("type to 299", x.type(0x20202020202020L, 7), 299);
        due("type past 300", x.type(0x2020, 2), FULL);
        due("FULL changes nothing", x.count(1), 299);
        due("BAD comes ahead of FULL", x.type(0, 9), BAD);
        due("type to 300", x.type(32, 1), 300);
        due("type past 300", x.type(32, 1), FULL);
        due("300 blanks are a talk", x.talk(0), 0);
        due("highest byte first", tellBytes(0x73656e6420412042L, 8, 0x20613bL, 3), -21);
        due("only the lowest bytes", tellBytes(0x4242424273656e64L, 4, 0x4142613bL, 4), -18);
        due("bytes above 127", tellBytes(-1L, 8, -1L, 8), -10);
        due("zero bytes", tellBytes(0L, 8, 0L, 8), -10);
    }

    private static int tellBytes(long v, int n, long w, int m) {
        DrawnTalks x = new DrawnTalks();
        x.type(v, n);
        x.type(w, m);
        return x.talk(0);
    }

    // Promise 3
    private static void clear() {
        DrawnTalks x = new DrawnTalks();
        due("clear of nothing", x.clear(), 0);
        x.type(65, 5);
        due("clear", x.clear(), 5);
        due("clear again", x.clear(), 0);
        due("count behind clear", x.count(1), 0);
        due("talk behind clear", x.talk(0), 0);
    }

    // Promise 4
    private static void talk() {
        DrawnTalks x = new DrawnTalks();
        write(x, "send A B a;take A B a;");
        due("talk(-1)", x.talk(-1), BAD);
        due("talk(4)", x.talk(4), BAD);
        due("talk low", x.talk(LOW), BAD);
        due("BAD leaves the text", x.count(1), 22);
        due("talk(3)", x.talk(3), 2);
        due("the text is empty then", x.count(1), 0);
        due("a fault", tell(x, 3, "send A B a;"), -21);
        due("the text stays", x.count(1), 11);
        due("the talk stays", x.about(3, 0), 2);
        due("BAD ahead of a fault", x.talk(9), BAD);
        x.clear();
        due("an empty text", x.talk(3), 0);
        due("the talk is empty", x.about(3, 0), 0);
        due("ten messages", tell(x, 0, whole(ten("sABa tABa"))), 20);
        due("ten messages under way", tell(x, 0, whole(ten("sABa") + " " + ten("tABa"))), 20);
    }

    private static void talkTokens() {
        DrawnTalks x = new DrawnTalks();
        due("no blanks", tell(x, 0, "sendABa;takeABa;"), 2);
        due("many blanks", tell(x, 1, "   send   A  B     a  ;  take A B a ;   "), 2);
        due("both alike", x.alike(0, 1), 1);
        due("all names", tell(x, 0, "send D C h; take D C h; send C D a; take C D a;"), 4);
        due("name h", x.event(0, 0, 3), 7);
        due("a letter too many", tell(x, 0, "sendd A B a;"), -10);
        due("a z too many", tell(x, 0, "sendz A B a;"), -10);
        due("a letter too few", tell(x, 0, "sen A B a;"), -10);
        due("words in one", tell(x, 0, "sendtake A B a;"), -10);
        due("a tab", tell(x, 0, "send\tA B a;"), -14);
        due("a row end", tell(x, 0, "\nsend A B a;"), -10);
        due("a name beyond h", tell(x, 0, "send A B i;"), -19);
        due("a longer name", tell(x, 0, "send A B ab;"), -19);
        due("a part beyond D", tell(x, 0, "send E A b;"), -15);
        due("a great word", tell(x, 0, "SEND A B a;"), -10);
        due("a digit within a word", tell(x, 0, "se1nd A B a;"), -10);
        due("a digit behind a name", tell(x, 0, "send A B a1;"), -20);
    }

    private static void talkFaults() {
        DrawnTalks x = new DrawnTalks();
        due("; first", tell(x, 0, " ;"), -11);
        due("a part first", tell(x, 0, "A B a;"), -10);
        due("a name first", tell(x, 0, "a A B;"), -10);
        due("one part only", tell(x, 0, "send A a;"), -17);
        due("no part", tell(x, 0, "take a;"), -15);
        due("three parts", tell(x, 0, "send A B C a;"), -19);
        due("no name", tell(x, 0, "send A B ;"), -19);
        due("a verb for a name", tell(x, 0, "send A B take;"), -19);
        due("no ;", tell(x, 0, "send A B a take A B a;"), -21);
        due("two ;", tell(x, 0, "send A B a;;"), -21);
        due("to itself", tell(x, 0, "send B B a;"), -17);
        due("taken from itself", tell(x, 0, "take C C a;"), -17);
        due("nothing to take", tell(x, 0, "take A B a;"), -19);
        due("another name to take", tell(x, 0, "send A B a; take A B b;"), -31);
        due("the other direction", tell(x, 0, "send A B a; take B A a;"), -31);
        due("taken twice", tell(x, 0, "send A B a; take A B a; take A B a;"), -43);
        due("ends behind the verb", tell(x, 0, "send "), -15);
        due("ends behind P", tell(x, 0, "send A"), -16);
        due("ends behind Q", tell(x, 0, "send A B  "), -20);
        due("ends behind the name", tell(x, 0, "send A B a"), -20);
        due("not taken", tell(x, 0, "send A B a;  "), -23);
        due("half a word at the end", tell(x, 0, "send A B a; tak"), -22);
        String full = whole(ten("sABa tABa"));
        due("an eleventh send", tell(x, 0, full + " send A B a;"), -10 - full.length() - 1);
        due("a take too many", tell(x, 0, full + "take A B a;"), -10 - full.length() - 9);
        String open = whole(ten("sABa"));
        due("an eleventh send, none taken", tell(x, 0, open + "send"), -10 - open.length());
    }

    // Promise 5
    private static void about() {
        DrawnTalks x = with("sABa sCBb tABa tCBb", "sDAa tDAa");
        due("about 0", x.about(0, 0), 4);
        due("about 1", x.about(0, 1), 2);
        due("about 2", x.about(0, 2), 7);
        due("about 2 of D and A", x.about(1, 2), 9);
        due("about 2 of none", x.about(2, 2), 0);
        due("about what -1", x.about(0, -1), BAD);
        due("about what 3", x.about(0, 3), BAD);
        due("about talk -1", x.about(-1, 0), BAD);
        due("about talk 4", x.about(4, 0), BAD);
    }

    // Promise 6
    private static void event() {
        DrawnTalks x = with("sABc sABd sABc tABd tABc tABc sDCh tDCh");
        long[][] want = {
            {0, 0, 1, 2, 4}, {0, 0, 1, 3, 3}, {0, 0, 1, 2, 5}, {1, 1, 0, 3, 1},
            {1, 1, 0, 2, 0}, {1, 1, 0, 2, 2}, {0, 3, 2, 7, 7}, {1, 2, 3, 7, 6}};
        for (int e = 0; e < want.length; e++) {
            for (int what = 0; what < 5; what++) {
                due("event(0, " + e + ", " + what + ")", x.event(0, e, what), want[e][what]);
            }
        }
        due("event -1", x.event(0, -1, 0), BAD);
        due("event 8", x.event(0, 8, 0), BAD);
        due("event high", x.event(0, HIGH, 0), BAD);
        due("event of none", x.event(1, 0, 0), BAD);
        due("event what -1", x.event(0, 0, -1), BAD);
        due("event what 5", x.event(0, 0, 5), BAD);
        due("event talk -1", x.event(-1, 0, 0), BAD);
        due("event talk 4", x.event(4, 0, 0), BAD);
    }

    // Promise 7
    private static void line() {
        DrawnTalks x = with("sABc sBAd tABc tBAd sDAa tDAa");
        due("line A", x.line(0, 0, -1), 3);
        due("line A 0", x.line(0, 0, 0), 0);
        due("line A 1", x.line(0, 0, 1), 3);
        due("line A 2", x.line(0, 0, 2), 5);
        due("line A 3", x.line(0, 0, 3), BAD);
        due("line B 0", x.line(0, 1, 0), 1);
        due("line C", x.line(0, 2, -1), 0);
        due("line C 0", x.line(0, 2, 0), BAD);
        due("line D 0", x.line(0, 3, 0), 4);
        due("line k -2", x.line(0, 0, -2), BAD);
        due("line k low", x.line(0, 0, LOW), BAD);
        due("line k high", x.line(0, 0, HIGH), BAD);
        due("line part -1", x.line(0, -1, -1), BAD);
        due("line part 4", x.line(0, 4, -1), BAD);
        due("line talk -1", x.line(-1, 0, -1), BAD);
        due("line talk 4", x.line(4, 0, -1), BAD);
        x = with(ten("sABa tABa"));
        due("line of ten", x.line(0, 1, -1), 10);
        due("line of ten, the last", x.line(0, 1, 9), 19);
    }

    // Promise 8
    private static void drawn() {
        DrawnTalks x = with("sABa sCDb tABa tCDb sBCc tBCc");
        due("drawn next of the line", x.drawn(0, 2, 4), 1);
        due("drawn send and take", x.drawn(0, 1, 3), 1);
        due("drawn through", x.drawn(0, 0, 5), 1);
        due("drawn not", x.drawn(0, 0, 1), 0);
        due("drawn not, other parts", x.drawn(0, 3, 5), 0);
        due("drawn backwards", x.drawn(0, 5, 0), 0);
        due("drawn itself", x.drawn(0, 2, 2), 0);
        due("drawn e -1", x.drawn(0, -1, 0), BAD);
        due("drawn e 6", x.drawn(0, 6, 0), BAD);
        due("drawn f -1", x.drawn(0, 0, -1), BAD);
        due("drawn f 6", x.drawn(0, 0, 6), BAD);
        due("drawn talk 4", x.drawn(4, 0, 0), BAD);
        due("drawn of none", x.drawn(1, 0, 0), BAD);
    }

    // Promise 9
    private static void kept() {
        DrawnTalks x = with("sABa sABb tABb tABa sBAc tBAc");
        due("kept send and send", x.kept(0, 0, 0, 1), 1);
        due("kept send and take", x.kept(0, 0, 0, 3), 1);
        due("kept take and send", x.kept(0, 0, 2, 4), 1);
        due("kept send and take of one line", x.kept(0, 0, 0, 5), 1);
        for (int way = 0; way < 3; way++) {
            due("kept takes the other way about", x.kept(0, way, 2, 3), 0);
            due("kept backwards", x.kept(0, way, 3, 2), 0);
            due("kept itself", x.kept(0, way, 0, 0), 0);
        }
        due("kept way -1", x.kept(0, -1, 0, 1), BAD);
        due("kept way 3", x.kept(0, 3, 0, 1), BAD);
        due("kept e -1", x.kept(0, 0, -1, 0), BAD);
        due("kept e 6", x.kept(0, 0, 6, 0), BAD);
        due("kept f -1", x.kept(0, 0, 0, -1), BAD);
        due("kept f 6", x.kept(0, 0, 0, 6), BAD);
        due("kept talk -1", x.kept(-1, 0, 0, 1), BAD);
        due("kept talk 4", x.kept(4, 0, 0, 1), BAD);
        x = with("sABa sABb tABa tABb");
        due("kept by any", x.kept(0, 0, 2, 3), 0);
        due("kept by rows", x.kept(0, 1, 2, 3), 1);
        due("kept by boxes", x.kept(0, 2, 2, 3), 1);
    }

    private static void keptBoxes() {
        DrawnTalks x = with("sACa sABb tABb sBCc tACa tBCc", "sACa sBAb tACa tBAb sACc sBCd tACc tBCd");
        due("boxes through another part, any", x.kept(0, 0, 4, 5), 0);
        due("boxes through another part, rows", x.kept(0, 1, 4, 5), 0);
        due("boxes through another part", x.kept(0, 2, 4, 5), 1);
        due("rows", x.kept(1, 1, 2, 6), 1);
        due("boxes not from two parts", x.kept(1, 2, 6, 7), 0);
        // The takes at B are kept by boxes alone; so the sends behind them are, and again at D.
        x = with("sABa sABb tABa tABb sCDc tCDc sBDd tBDd");
        due("boxes not", x.kept(0, 2, 5, 7), 0);
        x = with("sCBa sCAb tCAb sABc tCBa tABc sADd sBDe tADd tBDe");
        due("boxes once", x.kept(0, 2, 4, 5), 1);
        due("any", x.kept(0, 0, 4, 5), 0);
        due("boxes not told by a take", x.kept(0, 2, 8, 9), 0);
        // D's takes are kept, as the take at B that is ahead of B's send is kept by boxes behind A's.
        x = with("sDAa sDBb tDAa sABc tDBb tABc sBDd tBDd");
        due("take ahead of a send", x.kept(0, 0, 4, 6), 1);
        due("own send, any", x.kept(0, 0, 1, 7), 1);
    }

    // Promise 10
    private static void race() {
        DrawnTalks x = with("sABa sBAb tABa tBAb", "sABa sABb sCBc tABa tABb tCBc");
        due("races", x.race(0, 0, -1), 2);
        due("race 0", x.race(0, 0, 0), 3);
        due("race 1", x.race(0, 0, 1), 32 + 2);
        due("race 2", x.race(0, 0, 2), BAD);
        due("races by any", x.race(1, 0, -1), 3);
        due("race by any 0", x.race(1, 0, 0), 3 * 32 + 4);
        due("race by any 1", x.race(1, 0, 1), 3 * 32 + 5);
        due("race by any 2", x.race(1, 0, 2), 4 * 32 + 5);
        due("races by rows", x.race(1, 1, -1), 2);
        due("race by rows 0", x.race(1, 1, 0), 3 * 32 + 5);
        due("races by boxes", x.race(1, 2, -1), 2);
        due("races of none", x.race(2, 0, -1), 0);
        due("race of none", x.race(2, 0, 0), BAD);
        due("race k -2", x.race(0, 0, -2), BAD);
        due("race k high", x.race(0, 0, HIGH), BAD);
        due("race way -1", x.race(0, -1, -1), BAD);
        due("race way 3", x.race(0, 3, -1), BAD);
        due("race talk -1", x.race(-1, 0, -1), BAD);
        due("race talk 4", x.race(4, 0, -1), BAD);
    }

    // Promise 11
    private static void orders() {
        DrawnTalks x = with("sABa tABa sCDb tCDb", ten("sABa tABa"), ten("sABa") + " " + ten("tABa"),
                "sABa sABa sABa sABa sABa sCDb sCDb sCDb sCDb sCDb "
                + "tABa tABa tABa tABa tABa tCDb tCDb tCDb tCDb tCDb");
        due("orders of two apart", x.orders(0), 6);
        due("orders of ten", x.orders(1), 16796);
        due("orders of ten under way", x.orders(2), 16796);
        due("orders of five and five", x.orders(3), 42L * 42L * 184756L);
        due("orders -1", x.orders(-1), BAD);
        due("orders 4", x.orders(4), BAD);
        due("orders high", x.orders(HIGH), BAD);
    }

    // Promise 12
    private static void moments() {
        DrawnTalks x = with("sABa tABa sCDb tCDb", ten("sABa tABa"));
        due("moments of two apart", x.moments(0), 9);
        due("moments of ten", x.moments(1), 66);
        due("moments of none", x.moments(2), 1);
        due("moments -1", x.moments(-1), BAD);
        due("moments 4", x.moments(4), BAD);
    }

    // Promise 13
    private static void under() {
        DrawnTalks x = with(ten("sABa") + " " + ten("tABa"), "sABa sABb tABb tABa", "sABa tABa sBAb tBAb");
        due("most of ten", x.under(0, 0), 10);
        due("least of ten", x.under(0, 1), 1);
        due("most", x.under(1, 0), 2);
        due("least, crossed", x.under(1, 1), 2);
        due("most, to and fro", x.under(2, 0), 1);
        due("least, to and fro", x.under(2, 1), 1);
        due("most of none", x.under(3, 0), 0);
        due("least of none", x.under(3, 1), 0);
        due("under what -1", x.under(0, -1), BAD);
        due("under what 2", x.under(0, 2), BAD);
        due("under talk -1", x.under(-1, 0), BAD);
        due("under talk 4", x.under(4, 0), BAD);
    }

    // Promise 14
    private static void alike() {
        DrawnTalks x = with("sABa sCDb tABa tCDb", "sCDb tCDb sABa tABa", "sABa tABa sCDc tCDc");
        due("alike", x.alike(0, 1), 1);
        due("alike itself", x.alike(0, 0), 1);
        due("alike not, a name", x.alike(0, 2), 0);
        due("alike not, empty", x.alike(3, 2), 0);
        due("alike empty", x.alike(3, 3), 1);
        due("alike -1", x.alike(-1, 0), BAD);
        due("alike 4", x.alike(0, 4), BAD);
        x = with("sABa tABa sBAa tBAa", "sBAa tBAa sABa tABa", "sABa sBAa tABa tBAa", "sACa tACa sCAa tCAa");
        due("alike not, send and take", x.alike(0, 1), 0);
        due("alike not, order on a line", x.alike(0, 2), 0);
        due("alike not, other part", x.alike(0, 3), 0);
    }

    // Promise 15
    private static void behind() {
        DrawnTalks x = with("sABa tABa", "sBAb tBAb sCDc tCDc", "sABa sABa tABa tABa");
        due("behind", x.behind(0, 1, 3), 6);
        due("behind: first is the one's", x.event(3, 0, 3), 0);
        due("behind: then the other's", x.event(3, 2, 3), 1);
        due("behind: takes go along", x.event(3, 4, 4), 5);
        due("behind: sends go along", x.event(3, 3, 4), 2);
        due("behind: line", x.line(3, 0, 1), 3);
        due("behind to itself", x.behind(0, 0, 0), 4);
        due("behind to itself: mate", x.event(0, 3, 4), 2);
        due("behind to the second", x.behind(2, 0, 0), 8);
        due("behind to the second: mate", x.event(0, 1, 4), 3);
        due("behind to ten", x.behind(0, 0, 0), 16);
        due("behind exactly ten", x.behind(0, 2, 3), 20);
        due("behind more than ten", x.behind(3, 2, 1), FULL);
        due("behind FULL changes nothing", x.about(1, 0), 4);
        due("behind with none", x.behind(1, 1, 1), 8);
        due("behind BAD ahead of FULL", x.behind(3, 3, 4), BAD);
        due("behind i -1", x.behind(-1, 0, 0), BAD);
        due("behind j 4", x.behind(0, 4, 0), BAD);
        due("behind to -1", x.behind(0, 0, -1), BAD);
        write(x, "send");
        due("behind leaves the text", x.behind(2, 2, 2) + x.count(1), 12);
    }

    // Promise 16
    private static void play() {
        DrawnTalks x = with("sABa tABa sBAb tBAb", "sBAb tBAb sABa tABa", "sABa sBAb tABa tBAb", "sABb tABb");
        due("play a talk: done", x.play(0, 0), 4);
        due("play a talk: ends", x.play(0, 1), 1);
        due("play a talk: left", x.play(0, 2), 0);
        due("play crossed: done", x.play(16, 0), 4);
        due("play crossed: ends", x.play(16, 1), 1);
        due("play both wait: done", x.play(64, 0), 0);
        due("play both wait: ends", x.play(64, 1), 0);
        due("play both wait: left", x.play(64, 2), 0);
        due("play another name: done", x.play(3 * 64, 0), 1);
        due("play another name: ends", x.play(3 * 64, 1), 0);
        due("play another name: left", x.play(3 * 64, 2), 1);
        due("play ends in the end", x.play(2 * 64, 1), 1);
        due("play mix -1", x.play(-1, 0), BAD);
        due("play mix 256", x.play(256, 0), BAD);
        due("play what -1", x.play(0, -1), BAD);
        due("play what 3", x.play(0, 3), BAD);
        x = with("sABa tABa", "");
        due("play left over: done", x.play(16, 0), 1);
        due("play left over: ends", x.play(16, 1), 0);
        due("play left over: left", x.play(16, 2), 1);
        x = with(ten("sABa") + " " + ten("tABa"), ten("sBCa") + " " + ten("tBCa"),
                ten("sCDa") + " " + ten("tCDa"), ten("sDAa") + " " + ten("tDAa"));
        due("play forty: done", x.play(27, 0), 40);
        due("play forty: ends", x.play(27, 1), 0);
        due("play forty: left", x.play(27, 2), 40);
        due("play out of order", with("sABa sABb tABb tABa").play(0, 1), 0);
    }

    // Promise 17
    private static void mixes() {
        DrawnTalks x = with("sABa tABa sCDa tCDa", "sABb tABb sCDb tCDb");
        due("ends", x.mixes(3, 0), 4);
        due("stuck", x.mixes(3, 1), 12);
        due("new", x.mixes(3, 2), 2);
        due("ends of one", x.mixes(1, 0), 1);
        due("stuck of one", x.mixes(1, 1), 0);
        due("new of one", x.mixes(1, 2), 0);
        due("ends of the other", x.mixes(2, 0), 1);
        due("ends with the empty ones", x.mixes(15, 0), 9);
        due("stuck with the empty ones", x.mixes(15, 1), 72);
        due("new with the empty ones", x.mixes(15, 2), 6);
        due("set 0", x.mixes(0, 0), BAD);
        due("set 16", x.mixes(16, 0), BAD);
        due("set -1", x.mixes(-1, 0), BAD);
        due("mixes what -1", x.mixes(1, -1), BAD);
        due("mixes what 3", x.mixes(1, 3), BAD);
    }

    private static void mixesOfSameLines() {
        DrawnTalks x = with("sABa tABa", "sABa tABa", "sABa tABa", "sABa tABa");
        due("the same four times, ends", x.mixes(15, 0), 1);
        due("the same four times, stuck", x.mixes(15, 1), 0);
        due("the same four times, new", x.mixes(15, 2), 0);
        x = with("sABa tABa sCDa tCDa", "sABa tABa sCDb tCDb", "sABb tABb sCDa tCDa");
        due("some the same, ends", x.mixes(7, 0), 4);
        due("some the same, stuck", x.mixes(7, 1), 12);
        due("some the same, new", x.mixes(7, 2), 1);
        due("some the same, the new one", x.fresh(7, 0), 2 * 64 + 2 * 16 + 4 + 1);
    }

    // Promise 18
    private static void fresh() {
        DrawnTalks x = with("sABa tABa sCDa tCDa", "sABb tABb sCDb tCDb");
        due("fresh 0", x.fresh(3, 0), 5);
        due("fresh 1", x.fresh(3, 1), 80);
        due("fresh 2", x.fresh(3, 2), BAD);
        due("fresh of one", x.fresh(1, 0), BAD);
        due("fresh with an empty one", x.fresh(6, 0), 64 + 16 + 2 * 4 + 2);
        due("fresh k -1", x.fresh(3, -1), BAD);
        due("fresh k low", x.fresh(3, LOW), BAD);
        due("fresh k high", x.fresh(3, HIGH), BAD);
        due("fresh set 0", x.fresh(0, 0), BAD);
        due("fresh set 16", x.fresh(16, 0), BAD);
        due("fresh set 19", x.fresh(19, 0), BAD);
        due("fresh set -1", x.fresh(-1, 0), BAD);
    }

    // Promise 19
    private static void take() {
        DrawnTalks x = with("sCDa tCDa sABa tABa", "sABb tABb sCDb tCDb");
        due("take", x.take(5, 0), 4);
        due("take: as played", x.event(0, 0, 1), 0);
        due("take: as played, 1", x.event(0, 1, 1), 1);
        due("take: as played, 2", x.event(0, 2, 1), 2);
        due("take: as played, 3", x.event(0, 3, 1), 3);
        due("take: name of A", x.event(0, 0, 3), 0);
        due("take: name of C", x.event(0, 2, 3), 1);
        due("take: mate", x.event(0, 3, 4), 2);
        due("take of an empty mix", x.take(170, 3), 0);
        due("take stuck", x.take(64 * 2, 1), STATE);
        due("STATE changes nothing", x.about(1, 0), 4);
        due("take mix -1", x.take(-1, 0), BAD);
        due("take mix 256", x.take(256, 0), BAD);
        due("take to -1", x.take(0, -1), BAD);
        due("take to 4", x.take(0, 4), BAD);
        due("BAD ahead of STATE", x.take(64 * 2, 4), BAD);
    }

    private static void takeFull() {
        String nine = "sABa sABa sABa sABa sABa sABa sABa sABa sABa tABa tABa tABa tABa tABa tABa tABa tABa tABa";
        DrawnTalks x = with(nine + " sCDa tCDa", "sABa tABa sCDb sCDb tCDb tCDb", "sCDb tCDb");
        due("eleven: done", x.play(5, 0), 22);
        due("eleven: ends", x.play(5, 1), 1);
        due("take eleven", x.take(5, 3), FULL);
        due("FULL changes nothing", x.about(3, 0), 0);
        due("take ten", x.take(10, 3), 20);
        due("take ten: messages", x.about(3, 1), 10);
        due("take eleven, BAD", x.take(5, 4), BAD);
    }

    // Promise 20
    private static void count() {
        DrawnTalks x = with("sABa tABa", "sABa tABa sABb tABb");
        due("events of all", x.count(0), 6);
        x.type(32, 3);
        due("bytes", x.count(1), 3);
        due("count -1", x.count(-1), BAD);
        due("count 2", x.count(2), BAD);
        due("count low", x.count(LOW), BAD);
    }

    private static void refusalsChangeNothing() {
        DrawnTalks x = with("sABa sABb tABb tABa", "sCDc tCDc");
        x.type(0x73656e64L, 4);
        x.type(1, 9);
        x.talk(2);
        x.talk(7);
        x.behind(0, 1, 9);
        x.take(0, 2);
        x.take(256, 2);
        due("events stay", x.count(0), 6);
        due("bytes stay", x.count(1), 4);
        due("talk 2 stays", x.about(2, 0), 0);
        due("talk 0 stays", x.event(0, 2, 4), 1);
    }
}
