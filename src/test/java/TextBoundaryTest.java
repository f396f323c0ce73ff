/**
 * The document's boundaries of THE TEXT and of what a text tells (promises 1 to 7),
 * a test for each sentence that names one.
 */
public final class TextBoundaryTest extends Checks {
    private static final String ONE = "send A B a;take A B a;";

    public static void main(String[] args) {
        talksAreEmptyAtFirst();
        nIsOneToEight();
        theHighestByteFirst();
        bytesOfNegativeNumbers();
        threeHundredBytesAtMost();
        fullTypesNothing();
        clearMakesRoom();
        clearOfFullAndEmpty();
        talkEmptiesTheText();
        talkOfAnEmptyText();
        talkReplacesATalk();
        aFaultChangesNothing();
        blanksAnywhere();
        blanksNeeded();
        everyByteEverywhere();
        wordsThatAreNone();
        everyPairOfParts();
        aQThatIsP();
        nothingToTake();
        tenSendsAtMost();
        nothingBehindTwentyEvents();
        endsTooEarly();
        somethingIsNotTaken();
        theFirstFaultCounts();
        theFirstMessageOfThatName();
        eventsAreNumberedAsTheyStand();
        aboutAtItsEnds();
        emptyLines();
        theLongestLine();
        finish("the boundaries of texts hold");
    }

    // Promise 1; Terms: "TALKS 0 .. 3 (empty at first)"
    private static void talksAreEmptyAtFirst() {
        DrawnTalks x = new DrawnTalks();
        for (int i = 0; i < 4; i++) {
            for (int what = 0; what < 3; what++) {
                due("first: about", x.about(i, what), 0);
            }
            for (int p = 0; p < 4; p++) {
                due("first: line", x.line(i, p, -1), 0);
                due("first: no event on a line", x.line(i, p, 0), BAD);
            }
            due("first: no event", x.event(i, 0, 0), BAD);
            due("first: nothing drawn", x.drawn(i, 0, 0), BAD);
            due("first: nothing kept", x.kept(i, 0, 0, 0), BAD);
            due("first: no races", x.race(i, 2, -1), 0);
            due("first: no race", x.race(i, 2, 0), BAD);
            due("first: orders", x.orders(i), 1);
            due("first: moments", x.moments(i), 1);
            due("first: most", x.under(i, 0), 0);
            due("first: least", x.under(i, 1), 0);
            due("first: alike", x.alike(i, 3 - i), 1);
            due("first: behind", x.behind(i, 3 - i, i), 0);
        }
        due("first: done", x.play(27, 0), 0);
        due("first: ends", x.play(27, 1), 1);
        due("first: left over", x.play(27, 2), 0);
        due("first: mixes that end", x.mixes(15, 0), 1);
        due("first: mixes that are stuck", x.mixes(15, 1), 0);
        due("first: new mixes", x.mixes(15, 2), 0);
        due("first: no new mix", x.fresh(15, 0), BAD);
        due("first: take", x.take(228, 2), 0);
        due("first: events", x.count(0), 0);
        due("first: bytes", x.count(1), 0);
        due("first: clear", x.clear(), 0);
        DrawnTalks other = with("sABa tABa", "", "", "sCDb tCDb");
        other.type(32, 1);
        due("a second object: events", new DrawnTalks().count(0), 0);
        due("a second object: bytes", new DrawnTalks().count(1), 0);
    }

    // Promise 2: "The lowest n (1 .. 8) bytes of v"
    private static void nIsOneToEight() {
        int[] wrong = {LOW, LOW + 1, LOW + 8, -8, -1, 0, 9, 10, 16, 255, 257, HIGH - 1, HIGH};
        for (int n : wrong) {
            DrawnTalks x = new DrawnTalks();
            due("type n " + n, x.type(0x6161616161616161L, n), BAD);
            due("type n " + n + " types nothing", x.count(1), 0);
        }
        for (int n = 1; n <= 8; n++) {
            DrawnTalks x = new DrawnTalks();
            due("type n " + n, x.type(0, n), n);
            due("type n " + n + " again", x.type(0, n), 2 * n);
            due("bytes of n " + n, x.count(1), 2 * n);
        }
    }

    // Promise 2: ".. bytes of v, the highest of them first": in pieces of every size, whatever stands above them
    private static void theHighestByteFirst() {
        long[] above = {0, -1, 0x7a7a7a7a7a7a7a7aL, 0x3b, Long.MIN_VALUE};
        for (int n = 1; n <= 8; n++) {
            for (long a : above) {
                DrawnTalks x = new DrawnTalks();
                for (int k = 0; k < ONE.length(); k += n) {
                    String piece = ONE.substring(k, Math.min(ONE.length(), k + n));
                    x.type(asLong(a, piece), piece.length());
                }
                due("in pieces of " + n + " behind " + a, x.count(1), 22);
                due("in pieces of " + n + " behind " + a + ": talk", x.talk(0), 2);
            }
        }
    }

    // Promise 2, of a negative v: its bytes are 0 .. 255
    private static void bytesOfNegativeNumbers() {
        DrawnTalks x = new DrawnTalks();
        due("-1, 8", x.type(-1L, 8), 8);
        due("-1, 8: begins no token", x.talk(0), -10);
        due("the least long, 8", x.type(Long.MIN_VALUE, 8), 16);
        due("the greatest long, 8", x.type(Long.MAX_VALUE, 8), 24);
        due("the least long, 1", x.type(Long.MIN_VALUE, 1), 25);
        due("the greatest long, 1", x.type(Long.MAX_VALUE, 1), 26);
        // Eight bytes of a negative number: the first is above 127, the others are as they stand.
        x = new DrawnTalks();
        x.type(asLong(0xffffffffffffffa0L, "send A "), 8);
        due("a byte of 160 is no blank", x.talk(0), -10);
        x = new DrawnTalks();
        x.type(asLong(0, "send A "), 7);
        x.type(asLong(0xc2, " a;take"), 8);
        due("a byte of 194 is no B", x.talk(0), -17);
        x = new DrawnTalks();
        x.type(asLong(-1, "send"), 4);
        x.type(asLong(-1, "ABa;"), 4);
        x.type(asLong(-1, "takeABa"), 7);
        x.type(-197, 1);
        due("-197 ends in the byte of ;", x.talk(0), 2);
    }

    // Terms: "a text (300 bytes at most)"
    private static void threeHundredBytesAtMost() {
        due("300 bytes, the last is ;", told(" ".repeat(278) + ONE), 2);
        due("300 bytes, the last is a blank", told(ONE + " ".repeat(278)), 2);
        due("300 bytes, the last is wrong", told(" ".repeat(299) + "?"), -309);
        due("300 bytes, the last is half a word", told(" ".repeat(299) + "s"), -309);
        due("300 bytes end too early", told(" ".repeat(296) + "send"), -310);
        due("300 bytes, something is not taken", told(" ".repeat(289) + "send A B a;"), -310);
        due("299 bytes end too early", told(" ".repeat(295) + "send"), -309);
        due("300 blanks", told(" ".repeat(300)), 0);
        due("299 blanks", told(" ".repeat(299)), 0);
        due("300 bytes of one word", told("a".repeat(300)), -10);
        for (int n = 1; n <= 8; n++) {
            DrawnTalks x = new DrawnTalks();
            write(x, " ".repeat(300 - n));
            due("to 300 with " + n, x.type(0x2020202020202020L, n), 300);
            due("from 300 with " + n, x.type(0x2020202020202020L, n), FULL);
            x.clear();
            write(x, " ".repeat(301 - n));
            due("to 301 with " + n, x.type(0x2020202020202020L, n), FULL);
            due("to 301 with " + n + " types nothing", x.count(1), 301 - n);
        }
    }

    // Promise 2: "FULL", "nothing changes"
    private static void fullTypesNothing() {
        DrawnTalks x = new DrawnTalks();
        write(x, " ".repeat(277) + "send A B a;take A B a");
        due("298 bytes", x.count(1), 298);
        due("three more", x.type(asLong(0, "???"), 3), FULL);
        due("eight more", x.type(asLong(0, "????????"), 8), FULL);
        due("one more", x.type(';', 1), 299);
        due("two more", x.type(asLong(0, "??"), 2), FULL);
        due("and one", x.type(' ', 1), 300);
        due("nothing of the others is there", x.talk(0), 2);
        write(x, " ".repeat(300));
        due("BAD ahead of FULL, 0", x.type(0, 0), BAD);
        due("BAD ahead of FULL, 9", x.type(0, 9), BAD);
        due("still full", x.count(1), 300);
    }

    // Promise 3: "THE TEXT is empty: how many bytes it had"
    private static void clearMakesRoom() {
        DrawnTalks x = new DrawnTalks();
        for (int round = 0; round < 3; round++) {
            write(x, "?".repeat(300));
            due("full", x.type('?', 1), FULL);
            due("clear of 300", x.clear(), 300);
            due("room for one", x.type(' ', 1), 1);
            due("clear of one", x.clear(), 1);
        }
        write(x, ONE);
        due("nothing of it is left", x.talk(0), 2);
    }

    private static void clearOfFullAndEmpty() {
        DrawnTalks x = with("sABa tABa");
        due("clear of none", x.clear(), 0);
        due("clear of none again", x.clear(), 0);
        x.type(0, 8);
        due("clear of zeros", x.clear(), 8);
        due("the talk stays", x.about(0, 0), 2);
        due("the texts that come then are told from 0", tell(x, 0, "?"), -10);
    }

    // Promise 4: "THE TEXT becomes a TALK, and is empty then"
    private static void talkEmptiesTheText() {
        DrawnTalks x = new DrawnTalks();
        write(x, ONE + " ".repeat(278));
        due("talk of 300", x.talk(2), 2);
        due("empty then", x.count(1), 0);
        due("clear then", x.clear(), 0);
        due("talk then", x.talk(1), 0);
        write(x, " ".repeat(300));
        due("room for 300 then", x.count(1), 300);
        due("talk of blanks", x.talk(2), 0);
        due("empty then, too", x.count(1), 0);
    }

    private static void talkOfAnEmptyText() {
        DrawnTalks x = with("sABa tABa", "sABa tABa", "sABa tABa", "sABa tABa");
        for (int i = 0; i < 4; i++) {
            due("talk of an empty text", x.talk(i), 0);
            due("that one is empty", x.about(i, 0), 0);
            due("that one alone", x.count(0), 6 - 2 * i);
        }
    }

    private static void talkReplacesATalk() {
        DrawnTalks x = with(ten("sCDc tCDc"));
        due("a short talk for a long one", tell(x, 0, "send B A b; take B A b;"), 2);
        due("its messages", x.about(0, 1), 1);
        due("its parts", x.about(0, 2), 3);
        due("no third event", x.event(0, 2, 0), BAD);
        due("no line of C", x.line(0, 2, -1), 0);
        due("its line of B", x.line(0, 1, -1), 1);
        due("its moments", x.moments(0), 3);
    }

    // Promise 4: "-10 less FAULT: nothing changes (THE TEXT stays, too)"
    private static void aFaultChangesNothing() {
        DrawnTalks x = with("sCDc tCDc sDCd tDCd");
        write(x, "send A B a;");
        for (int round = 0; round < 2; round++) {
            due("a fault", x.talk(0), -21);
            due("the text stays", x.count(1), 11);
            due("the talk stays", x.about(0, 0), 4);
            due("its events stay", x.event(0, 3, 4), 2);
            due("its lines stay", x.line(0, 2, 1), 3);
            due("its orders stay", x.orders(0), 1);
        }
        write(x, "take A B a;");
        due("the text goes on", x.talk(0), 2);
        due("as it was told", x.event(0, 1, 1), 1);
        write(x, "?");
        due("BAD ahead of a fault, -1", x.talk(-1), BAD);
        due("BAD ahead of a fault, 4", x.talk(4), BAD);
        due("a fault, to an empty talk", x.talk(3), -10);
        due("that stays empty", x.about(3, 0), 0);
        due("the text stayed all the while", x.clear(), 1);
    }

    // Terms: "blanks (32), any number, ahead of, between, behind TOKENS"
    private static void blanksAnywhere() {
        String[] tokens = {"send", "A", "B", "a", ";", "take", "A", "B", "a", ";"};
        for (int at = 0; at <= tokens.length; at++) {
            for (int many : new int[] {0, 1, 2, 100, 284}) {
                StringBuilder b = new StringBuilder();
                for (int k = 0; k <= tokens.length; k++) {
                    b.append(k == at ? " ".repeat(many) : "");
                    b.append(k < tokens.length ? tokens[k] : "");
                }
                due(many + " blanks ahead of token " + at, told(b.toString()), 2);
            }
        }
        due("one blank", told(" "), 0);
        due("blanks everywhere", told("  send  A  B  a  ;  take  A  B  a  ;  "), 2);
    }

    // Terms: "needed only between two rows of letters"
    private static void blanksNeeded() {
        due("two rows with a blank: the second can't stand there", told("send a"), -15);
        due("two rows without: one word that is none", told("senda"), -10);
        due("a name and a word with a blank", told("send A B a take"), -21);
        due("a name and a word without", told("send A B atake"), -19);
        due("two names with a blank", told("send A B a b;"), -21);
        due("two names without", told("send A B ab;"), -19);
        due("none needed at a part", told("sendABa;takeABa;"), 2);
        due("nor between parts and names", told("send AB a;take A Ba;"), 2);
    }

    /** In place of each token, and ahead and behind: every byte that there is. */
    private static void everyByteEverywhere() {
        for (int b = 0; b < 256; b++) {
            String s = String.valueOf((char) b);
            boolean blank = b == ' ';
            boolean letter = b >= 'a' && b <= 'z';
            boolean part = b >= 'A' && b <= 'D';
            due("ahead: " + b, told(s + ONE), blank ? 2 : -10);
            due("behind: " + b, told(ONE + s), blank ? 2 : -32);
            due("for P: " + b, told("send " + s + " B a;take " + s + " B a;"),
                    b == 'B' ? -17 : part ? 2 : blank ? -19 : -15);
            due("for Q: " + b, told("send A " + s + " a;take A " + s + " a;"),
                    b == 'A' ? -17 : part ? 2 : blank ? -19 : -17);
            due("for NAME: " + b, told("send A B " + s + ";take A B " + s + ";"),
                    b >= 'a' && b <= 'h' ? 2 : blank ? -20 : -19);
            due("for ;: " + b, told("send A B a" + s + "take A B a;"),
                    b == ';' ? 2 : blank ? -21 : letter ? -19 : -20);
            due("for a blank: " + b, told("send" + s + "A B a;take A B a;"),
                    blank ? 2 : letter ? -10 : b == 'A' ? -15 : part ? -17 : -14);
            due("alone: " + b, told(s), blank ? 0 : -10);
        }
    }

    // FAULT: "a word that is none of these, that TOKEN's"
    private static void wordsThatAreNone() {
        String[] none = {"s", "se", "sen", "sendd", "sendsend", "sends", "xsend", "t", "ta", "tak", "takee", "takes",
            "taketake", "sand", "tako", "dnes", "ekat", "aa", "ab", "hh", "i", "z", "zzzzz", "sendtake"};
        for (String word : none) {
            due(word + " for a verb", told(word + " A B a;"), -10);
            due(word + " for a verb, no blank", told(word + "A B a;"), -10);
            due(word + " for a later verb", told(ONE + "  " + word + " A B a;"), -34);
        }
        String[] names = {"aa", "ah", "hh", "i", "j", "z", "send", "take", "sen", "hi"};
        for (String word : names) {
            due(word + " for a name", told("send A B " + word + ";"), -19);
            due(word + " for a part", told("send " + word + " B a;"), -15);
            due(word + " for ;", told("send A B a " + word), -21);
        }
        for (char name = 'a'; name <= 'h'; name++) {
            due(name + " for a verb", told(name + " A B a;"), -10);
            DrawnTalks x = new DrawnTalks();
            due(name + " is a name", tell(x, 0, "send A B " + name + ";take A B " + name + ";"), 2);
            due(name + " of a send", x.event(0, 0, 3), name - 'a');
            due(name + " of a take", x.event(0, 1, 3), name - 'a');
        }
    }

    // Terms: "PARTS A .. D (0 .. 3)"
    private static void everyPairOfParts() {
        for (int p = 0; p < 4; p++) {
            for (int q = 0; q < 4; q++) {
                String pair = "" + (char) ('A' + p) + (char) ('A' + q);
                DrawnTalks x = new DrawnTalks();
                if (p == q) {
                    continue;
                }
                due(pair, tell(x, 3, "send" + pair + "a;take" + pair + "a;"), 2);
                due(pair + ": the send's part", x.event(3, 0, 1), p);
                due(pair + ": the send's other part", x.event(3, 0, 2), q);
                due(pair + ": the take's part", x.event(3, 1, 1), q);
                due(pair + ": the take's other part", x.event(3, 1, 2), p);
                due(pair + ": line of the one", x.line(3, p, 0), 0);
                due(pair + ": line of the other", x.line(3, q, 0), 1);
                due(pair + ": parts", x.about(3, 2), 1 << p | 1 << q);
            }
        }
    }

    // FAULT: "a Q that is P"
    private static void aQThatIsP() {
        for (char p = 'A'; p <= 'D'; p++) {
            due("send to itself", told("send " + p + " " + p + " a;"), -17);
            due("take from itself", told("take " + p + " " + p + " a;"), -17);
            due("to itself, and the text ends", told("send" + p + p), -15);
            due("to itself, later", told(ONE + "send " + p + "   " + p + " a;"), -10 - 22 - 9);
        }
    }

    // FAULT: "a NAME of which there is nothing to take"
    private static void nothingToTake() {
        due("nothing is sent", told("take A B a;"), -19);
        due("another name is", told("send A B a;take A B b;"), -30);
        due("to the other part", told("send A B a;take B A a;"), -30);
        due("to a third part", told("send A B a;take A C a;"), -30);
        due("from a third part", told("send A B a;take C B a;"), -30);
        due("it is taken", told(ONE + "take A B a;"), -41);
        due("two, and both are taken", told("send A B a;send A B a;take A B a;take A B a;take A B a;"), -63);
        due("it is sent later", told("take A B a;send A B a;"), -19);
        due("a name that is none", told("take A B i;"), -19);
        due("at the end of the text", told("take A B a"), -19);
        due("no name at all", told("take A B"), -18);
        due("with blanks", told("take  A  B   a"), -23);
    }

    // Terms: "10 sends at most"; FAULT: "an eleventh send"
    private static void tenSendsAtMost() {
        String pair = "sendABa;takeABa;";
        due("nine", told(pair.repeat(9)), 18);
        due("ten", told(pair.repeat(10)), 20);
        due("eleven", told(pair.repeat(11)), -170);
        due("ten, none taken yet", told("sendABa;".repeat(10) + "takeABa;".repeat(10)), 20);
        due("eleven, none taken yet", told("sendABa;".repeat(11)), -90);
        due("ten between any parts", told("sendABa;sendBCb;sendCDc;sendDAd;sendACe;sendBDf;sendCAg;sendDBh;sendADa;sendDCb;"
                + "takeDCb;takeADa;takeDBh;takeCAg;takeBDf;takeACe;takeDAd;takeCDc;takeBCb;takeABa;"), 20);
        due("the eleventh is of another name", told(pair.repeat(10) + "sendDCh;"), -170);
        due("with blanks", told(pair.repeat(10) + "   send A B a;"), -173);
        due("the word alone", told(pair.repeat(10) + "send"), -170);
        due("ahead of what is wrong behind it", told(pair.repeat(10) + "send A A ?"), -170);
        due("ahead of what is not taken", told("sendABa;".repeat(10) + "takeABa;".repeat(9) + "send"), -162);
    }

    /** Ten messages, all taken: a take finds nothing, and its tokens are looked at in their order. */
    private static void nothingBehindTwentyEvents() {
        String full = "sendABa;takeABa;".repeat(10);
        due("a take", told(full + "take A B a;"), -179);
        due("a take, cut", told(full + "take"), -174);
        due("a take without a part", told(full + "take a"), -175);
        due("a take from itself", told(full + "take A A"), -177);
        due("a ;", told(full + ";"), -170);
        due("a byte", told(full + "?"), -170);
        due("a word", told(full + " tak"), -171);
        due("blanks", told(full + "     "), 20);
    }

    // FAULT: "the text's length, if it ends too early": each beginning of a talk
    private static void endsTooEarly() {
        for (int n = 0; n <= ONE.length(); n++) {
            String start = ONE.substring(0, n);
            int want = n == 0 ? 0 : n == 22 ? 2 : -10 - (n < 4 ? 0 : n > 11 && n < 15 ? 11 : n);
            due("the first " + n, told(start), want);
            int later = want >= 0 || n < 4 || n > 11 && n < 15 ? want : -10 - n - 3;
            due("the first " + n + " and blanks", told(start + "   "), later);
        }
    }

    // FAULT: "or something is not taken"; Terms: "all that is sent is taken in the end"
    private static void somethingIsNotTaken() {
        due("one", told("send A B a;"), -21);
        due("one, and blanks", told("send A B a;     "), -26);
        due("the first of two", told("send A B a;send A B b;take A B b;"), -43);
        due("the last of two", told("send A B a;take A B a;send A B a;"), -43);
        due("one of two alike", told("send A B a;send A B a;take A B a;"), -43);
        due("to another part", told("send A B a;send A C a;take A C a;"), -43);
        due("all of ten", told("sendABa;".repeat(10)), -90);
        due("one of ten", told("sendABa;".repeat(10) + "takeABa;".repeat(9)), -162);
    }

    // FAULT: "the first TOKEN that can't stand there"
    private static void theFirstFaultCounts() {
        due("a fault ahead of a wrong byte", told("send A A a; ?"), -17);
        due("a fault ahead of a wrong word", told("take A B a; sned"), -19);
        due("a wrong byte ahead of the end", told("send A B a; ?"), -22);
        due("a wrong byte behind blanks", told("send    ?"), -18);
        due("a wrong byte within a word", told("se?nd"), -10);
        due("a wrong byte behind a word", told("send?"), -14);
        due("a wrong word, then a wrong byte", told("sen ?"), -10);
        due("the second ; of two", told("send A B a;;"), -21);
        due("a ; alone", told("  ;"), -12);
        due("a part for a verb", told(" A"), -11);
        due("a third part", told("send A B C"), -19);
        due("a ; for a name", told("send A B ;"), -19);
        due("a part for ;", told("send A B a A"), -21);
        due("two faults, the first", told("send B B a; send C C a;"), -17);
    }

    // Terms: "the first message of that NAME that P sent to it and that is not taken yet"
    private static void theFirstMessageOfThatName() {
        DrawnTalks x = with("sABa sABb sCBa sACa sABa sABa tABa tABb tCBa tABa tACa tABa");
        int[] mates = {6, 7, 8, 10, 9, 11, 0, 1, 2, 4, 3, 5};
        for (int e = 0; e < mates.length; e++) {
            due("mate of " + e, x.event(0, e, 4), mates[e]);
        }
        x = with("sABa tABa sABa sABa tABa tABa");
        int[] later = {1, 0, 4, 5, 2, 3};
        for (int e = 0; e < later.length; e++) {
            due("mate of the later " + e, x.event(0, e, 4), later[e]);
        }
        x = with(ten("sABa") + " " + ten("tABa"));
        due("the first of ten", x.event(0, 10, 4), 0);
        due("the last of ten", x.event(0, 19, 4), 9);
        due("the take of the last", x.event(0, 9, 4), 19);
    }

    // Terms: "EVENTS are numbered from 0 as they stand"; promise 6
    private static void eventsAreNumberedAsTheyStand() {
        DrawnTalks x = with(ten("sABa tABa"), "sDCh tDCh");
        for (int e = 0; e < 20; e++) {
            due("a take is each second one", x.event(0, e, 0), e % 2);
        }
        int[] none = {LOW, -20, -1, 20, 21, 40, HIGH};
        for (int e : none) {
            due("event " + e + " of twenty", x.event(0, e, 0), BAD);
        }
        due("the second of two", x.event(1, 1, 0), 1);
        due("the third of two", x.event(1, 2, 0), BAD);
        int[] nothing = {LOW, -1, 5, 6, HIGH};
        for (int what : nothing) {
            due("event, what " + what, x.event(0, 0, what), BAD);
        }
    }

    // Promise 5
    private static void aboutAtItsEnds() {
        DrawnTalks x = with(ten("sABa tABa"), "sABa tABa sCDa tCDa", "sBDa tBDa", "");
        long[][] want = {{20, 10, 3}, {4, 2, 15}, {2, 1, 10}, {0, 0, 0}};
        for (int i = 0; i < 4; i++) {
            for (int what = 0; what < 3; what++) {
                due("about(" + i + ", " + what + ")", x.about(i, what), want[i][what]);
            }
        }
        for (int what : new int[] {LOW, -1, 3, 4, HIGH}) {
            due("about, what " + what, x.about(0, what), BAD);
        }
    }

    // Terms: "PARTS without EVENTS in a TALK have an empty LINE there"; promise 7
    private static void emptyLines() {
        DrawnTalks x = with("sBDa tBDa");
        for (int p = 0; p < 4; p += 2) {
            due("an empty line", x.line(0, p, -1), 0);
            due("an empty line has no first", x.line(0, p, 0), BAD);
        }
        for (int p = 1; p < 4; p += 2) {
            due("a line of one", x.line(0, p, -1), 1);
            due("its first", x.line(0, p, 0), p / 2);
            due("no second", x.line(0, p, 1), BAD);
        }
    }

    // Promise 7: "how many EVENTS (k = -1), the k-th. BAD (no k-th one, too)"
    private static void theLongestLine() {
        DrawnTalks x = with(times(5, "sABa sCAa") + " " + times(5, "tABa tCAa"));
        due("ten on a line", x.line(0, 0, -1), 10);
        for (int k = 0; k < 10; k++) {
            due("the k-th of ten", x.line(0, 0, k), k < 5 ? 2 * k : 2 * k + 1);
        }
        for (int k : new int[] {LOW, LOW + 1, -3, -2, 10, 11, 20, HIGH}) {
            due("no k-th: " + k, x.line(0, 0, k), BAD);
        }
        due("five on a line", x.line(0, 2, -1), 5);
        due("the last of five", x.line(0, 2, 4), 9);
        due("no sixth", x.line(0, 2, 5), BAD);
        for (int p : new int[] {LOW, -1, 4, 5, HIGH}) {
            due("part " + p, x.line(0, p, -1), BAD);
            due("part " + p + ", 0", x.line(0, p, 0), BAD);
        }
    }
}
