/**
 * Four drawn talks between the parts A to D, told by texts: what their drawings
 * order, how they may happen, and what comes of it when each part keeps to its
 * line of some talk of its own. The document is ../shared/DOC.md.
 */
public final class DrawnTalks {
    public static final int BAD = -1, STATE = -2, FULL = -3, NONE = -9;

    private static final int TALKS = 4;
    private static final int PARTS = 4;
    private static final int NAMES = 8;
    private static final int MESSAGES = 10;
    private static final int EVENTS = 2 * MESSAGES;
    private static final int BYTES = 300;
    private static final int MIXES = 256;
    private static final int SETS = 16;

    /** A message has one event at most on a line, so a line has no more than this. */
    private static final int LONGEST_LINE = MESSAGES;

    /** Twenty events on four lines: the most cuts are (5 + 1) to the power of 4. */
    private static final int CUTS = 1296;

    private static final int WAY_ANY = 0;
    private static final int WAY_ROWS = 1;
    private static final int WAY_BOXES = 2;
    private static final int WAY_DRAWN = 3;

    private static final int HOW_MANY = -1;
    private static final int RACE_BASE = 32;
    private static final int FAULT_BASE = -10;

    /** Stands for an event, a talk or a fault that is not there. */
    private static final int ABSENT = -1;

    private final Talk[] talks;
    private final Talk built;
    private final Reader reader;
    private final Relation relation;
    private final Lattice lattice;
    private final Player player;
    private final Mixer mixer;

    public DrawnTalks() {
        talks = new Talk[TALKS];
        for (int i = 0; i < TALKS; i++) {
            talks[i] = new Talk();
        }
        built = new Talk();
        reader = new Reader();
        relation = new Relation();
        lattice = new Lattice();
        player = new Player(talks);
        mixer = new Mixer(talks, player);
    }

    // ---- talks

    public int type(long v, int n) {
        if (n < 1 || n > 8) {
            return BAD;
        }
        if (reader.length + n > BYTES) {
            return FULL;
        }
        for (int k = n - 1; k >= 0; k--) {
            reader.append((int) (v >>> (8 * k)) & 255);
        }
        return reader.length;
    }

    public int clear() {
        int had = reader.length;
        reader.length = 0;
        return had;
    }

    public int talk(int i) {
        if (!isTalk(i)) {
            return BAD;
        }
        int fault = reader.readInto(built);
        if (fault != ABSENT) {
            return FAULT_BASE - fault;
        }
        reader.length = 0;
        return keepBuilt(i);
    }

    public int about(int i, int what) {
        if (!isTalk(i)) {
            return BAD;
        }
        switch (what) {
            case 0:
                return talks[i].size;
            case 1:
                return talks[i].sends;
            case 2:
                return talks[i].partsWithEvents();
            default:
                return BAD;
        }
    }

    public int event(int i, int e, int what) {
        if (!isEvent(i, e)) {
            return BAD;
        }
        Talk t = talks[i];
        switch (what) {
            case 0:
                return asNumber(t.isTake[e]);
            case 1:
                return t.part[e];
            case 2:
                return t.other[e];
            case 3:
                return t.name[e];
            case 4:
                return t.mate[e];
            default:
                return BAD;
        }
    }

    public int line(int i, int part, int k) {
        if (!isTalk(i) || !isPart(part)) {
            return BAD;
        }
        if (k == HOW_MANY) {
            return talks[i].lineSize[part];
        }
        int e = talks[i].onLine(part, k);
        return e == ABSENT ? BAD : e;
    }

    // ---- orders

    public int drawn(int i, int e, int f) {
        if (!isEvent(i, e) || !isEvent(i, f)) {
            return BAD;
        }
        relation.workOut(talks[i], WAY_DRAWN);
        return asNumber(relation.isAhead(e, f));
    }

    public int kept(int i, int way, int e, int f) {
        if (!isWay(way) || !isEvent(i, e) || !isEvent(i, f)) {
            return BAD;
        }
        relation.workOut(talks[i], way);
        return asNumber(relation.isAhead(e, f));
    }

    public int race(int i, int way, int k) {
        if (!isTalk(i) || !isWay(way) || k < HOW_MANY) {
            return BAD;
        }
        relation.workOut(talks[i], way);
        return k == HOW_MANY ? relation.howManyRaces(talks[i]) : relation.raceAt(talks[i], k);
    }

    public long orders(int i) {
        if (!isTalk(i)) {
            return BAD;
        }
        lattice.walk(talks[i]);
        return lattice.rowsInAll;
    }

    public int moments(int i) {
        if (!isTalk(i)) {
            return BAD;
        }
        lattice.walk(talks[i]);
        return lattice.reached;
    }

    public int under(int i, int what) {
        if (!isTalk(i) || what < 0 || what > 1) {
            return BAD;
        }
        lattice.walk(talks[i]);
        return what == 0 ? lattice.most : lattice.least;
    }

    // ---- two talks, and mixes

    public int alike(int i, int j) {
        if (!isTalk(i) || !isTalk(j)) {
            return BAD;
        }
        for (int p = 0; p < PARTS; p++) {
            if (!talks[i].hasSameLine(talks[j], p)) {
                return 0;
            }
        }
        return 1;
    }

    public int behind(int i, int j, int to) {
        if (!isTalk(i) || !isTalk(j) || !isTalk(to)) {
            return BAD;
        }
        if (talks[i].sends + talks[j].sends > MESSAGES) {
            return FULL;
        }
        built.empty();
        built.addAll(talks[i]);
        built.addAll(talks[j]);
        return keepBuilt(to);
    }

    public int play(int mix, int what) {
        if (!isMix(mix) || what < 0 || what > 2) {
            return BAD;
        }
        player.perform(mix);
        switch (what) {
            case 0:
                return player.done;
            case 1:
                return asNumber(player.ends());
            default:
                return player.left;
        }
    }

    public int mixes(int set, int what) {
        if (!isSet(set) || what < 0 || what > 2) {
            return BAD;
        }
        return mixer.howMany(set, what);
    }

    public int fresh(int set, int k) {
        if (!isSet(set) || k < 0) {
            return BAD;
        }
        return mixer.newAt(set, k);
    }

    public int take(int mix, int to) {
        if (!isMix(mix) || !isTalk(to)) {
            return BAD;
        }
        player.perform(mix);
        if (!player.ends()) {
            return STATE;
        }
        if (player.done > EVENTS) {
            return FULL;
        }
        player.copyInto(built);
        return keepBuilt(to);
    }

    public int count(int what) {
        if (what == 1) {
            return reader.length;
        }
        if (what != 0) {
            return BAD;
        }
        int sum = 0;
        for (int i = 0; i < TALKS; i++) {
            sum += talks[i].size;
        }
        return sum;
    }

    /** Built apart and copied, as the talk it comes to may be one that it is made of. */
    private int keepBuilt(int i) {
        if (!isTalk(i)) {
            return BAD;
        }
        talks[i].empty();
        talks[i].addAll(built);
        return talks[i].size;
    }

    private boolean isEvent(int i, int e) {
        return isTalk(i) && e >= 0 && e < talks[i].size;
    }

    private static boolean isTalk(int i) {
        return i >= 0 && i < TALKS;
    }

    private static boolean isPart(int p) {
        return p >= 0 && p < PARTS;
    }

    private static boolean isWay(int way) {
        return way >= WAY_ANY && way <= WAY_BOXES;
    }

    private static boolean isMix(int mix) {
        return mix >= 0 && mix < MIXES;
    }

    private static boolean isSet(int set) {
        return set >= 1 && set < SETS;
    }

    private static int asNumber(boolean b) {
        return b ? 1 : 0;
    }

    /** The talk whose line a part keeps to: two bits of the mix, part A's the highest. */
    private static int choice(int mix, int p) {
        return (mix >> (2 * (PARTS - 1 - p))) & (TALKS - 1);
    }

    /** The events of one talk, as they stand, and the lines of its parts. */
    private static final class Talk {
        private final boolean[] isTake = new boolean[EVENTS];
        private final int[] part = new int[EVENTS];
        private final int[] other = new int[EVENTS];
        private final int[] name = new int[EVENTS];
        private final int[] mate = new int[EVENTS];
        private final int[] lineSize = new int[PARTS];
        private final int[] lineEvents = new int[PARTS * LONGEST_LINE];
        private int size;
        private int sends;

        void empty() {
            size = 0;
            sends = 0;
            for (int p = 0; p < PARTS; p++) {
                lineSize[p] = 0;
            }
        }

        boolean isWhole() {
            return size == 2 * sends;
        }

        /** The event number k of a part's line, or ABSENT. */
        int onLine(int p, int k) {
            if (p < 0 || p >= PARTS || k < 0 || k >= lineSize[p]) {
                return ABSENT;
            }
            return lineEvents[p * LONGEST_LINE + k];
        }

        int partsWithEvents() {
            int bits = 0;
            for (int p = 0; p < PARTS; p++) {
                if (lineSize[p] > 0) {
                    bits |= 1 << p;
                }
            }
            return bits;
        }

        /** The first send of such a message that is not taken yet, or ABSENT. */
        int firstWaiting(int from, int to, int what) {
            for (int e = 0; e < size; e++) {
                if (!isTake[e] && mate[e] == ABSENT
                        && part[e] == from && other[e] == to && name[e] == what) {
                    return e;
                }
            }
            return ABSENT;
        }

        void addSend(int from, int to, int what) {
            if (sends < MESSAGES && add(from, to, what)) {
                isTake[size - 1] = false;
                mate[size - 1] = ABSENT;
                sends++;
            }
        }

        void addTake(int from, int to, int what) {
            int send = firstWaiting(from, to, what);
            if (send != ABSENT && add(to, from, what)) {
                isTake[size - 1] = true;
                mate[size - 1] = send;
                mate[send] = size - 1;
            }
        }

        private boolean add(int p, int q, int what) {
            if (p < 0 || p >= PARTS || q < 0 || q >= PARTS) {
                return false;
            }
            if (size >= EVENTS || lineSize[p] >= LONGEST_LINE) {
                return false;
            }
            part[size] = p;
            other[size] = q;
            name[size] = what;
            lineEvents[p * LONGEST_LINE + lineSize[p]] = size;
            lineSize[p]++;
            size++;
            return true;
        }

        void addCopy(Talk from, int e) {
            if (e < 0 || e >= from.size) {
                return;
            }
            if (from.isTake[e]) {
                addTake(from.other[e], from.part[e], from.name[e]);
            } else {
                addSend(from.part[e], from.other[e], from.name[e]);
            }
        }

        void addAll(Talk from) {
            for (int e = 0; e < from.size; e++) {
                addCopy(from, e);
            }
        }

        boolean hasSameLine(Talk that, int p) {
            if (p < 0 || p >= PARTS || lineSize[p] != that.lineSize[p]) {
                return false;
            }
            for (int k = 0; k < lineSize[p]; k++) {
                int e = onLine(p, k);
                int f = that.onLine(p, k);
                if (e == ABSENT || f == ABSENT || isTake[e] != that.isTake[f]
                        || other[e] != that.other[f] || name[e] != that.name[f]) {
                    return false;
                }
            }
            return true;
        }
    }

    /** The text, and the reading of it, token by token. */
    private static final class Reader {
        private static final int SEND = 0;
        private static final int TAKE = 1;
        private static final int PART = 2;
        private static final int NAME = 3;
        private static final int SEMICOLON = 4;
        private static final int END_OF_TEXT = 5;
        private static final int WRONG = 6;

        private final int[] text = new int[BYTES];
        private int length;
        private int at;
        private int start;
        private int kind;
        private int value;

        void append(int b) {
            if (length < BYTES) {
                text[length] = b;
                length++;
            }
        }

        /** The place of the fault, or ABSENT, if the text is a talk. */
        int readInto(Talk t) {
            t.empty();
            at = 0;
            for (int k = 0; k <= EVENTS; k++) {
                if (nextIs(END_OF_TEXT)) {
                    return t.isWhole() ? ABSENT : length;
                }
                if (!readEvent(t)) {
                    return start;
                }
            }
            return start;
        }

        /** One event, its first token being read; if it fails, start is at the fault. */
        private boolean readEvent(Talk t) {
            int verb = kind;
            if (verb != TAKE && (verb != SEND || t.sends >= MESSAGES)) {
                return false;
            }
            if (!nextIs(PART)) {
                return false;
            }
            int from = value;
            if (!nextIs(PART) || value == from) {
                return false;
            }
            int to = value;
            if (!nextIs(NAME)) {
                return false;
            }
            int what = value;
            if (verb == TAKE && t.firstWaiting(from, to, what) == ABSENT) {
                return false;
            }
            if (verb == TAKE) {
                t.addTake(from, to, what);
            } else {
                t.addSend(from, to, what);
            }
            return nextIs(SEMICOLON);
        }

        /** Reads the next token; at the end of the text it stands behind the last byte. */
        private boolean nextIs(int wanted) {
            while (at < length && text[at] == ' ') {
                at++;
            }
            start = at;
            value = 0;
            if (at >= length) {
                kind = END_OF_TEXT;
            } else if (isSmallLetter(text[at])) {
                readWord();
            } else {
                readSign(text[at]);
            }
            return kind == wanted;
        }

        private void readSign(int b) {
            at++;
            if (b == ';') {
                kind = SEMICOLON;
            } else if (b >= 'A' && b < 'A' + PARTS) {
                kind = PART;
                value = b - 'A';
            } else {
                kind = WRONG;
            }
        }

        private void readWord() {
            while (at < length && isSmallLetter(text[at])) {
                at++;
            }
            if (wordIs("send")) {
                kind = SEND;
            } else if (wordIs("take")) {
                kind = TAKE;
            } else if (at - start == 1 && text[start] < 'a' + NAMES) {
                kind = NAME;
                value = text[start] - 'a';
            } else {
                kind = WRONG;
            }
        }

        private boolean wordIs(String word) {
            if (at - start != word.length()) {
                return false;
            }
            for (int k = start; k < at; k++) {
                if (text[k] != word.charAt(k - start)) {
                    return false;
                }
            }
            return true;
        }

        private static boolean isSmallLetter(int b) {
            return b >= 'a' && b <= 'z';
        }
    }

    /** Which events of a talk are ahead of which, as drawn or as kept by a way. */
    private static final class Relation {
        /** For each event the events ahead of it, as bits. */
        private final int[] ahead = new int[EVENTS];

        /**
         * Whatever is ahead of an event has a lower number, and so have the sends
         * that the way of boxes looks at: going up once settles everything.
         */
        void workOut(Talk t, int way) {
            for (int f = 0; f < t.size; f++) {
                int mask = 0;
                for (int e = 0; e < f; e++) {
                    if (isDirect(t, way, e, f)) {
                        mask |= ahead[e] | (1 << e);
                    }
                }
                ahead[f] = mask;
            }
        }

        boolean isAhead(int e, int f) {
            return e >= 0 && e < EVENTS && f >= 0 && f < EVENTS && (ahead[f] & (1 << e)) != 0;
        }

        private boolean isDirect(Talk t, int way, int e, int f) {
            if (t.mate[f] == e) {
                return true;
            }
            if (t.part[e] != t.part[f]) {
                return false;
            }
            if (way == WAY_DRAWN || !t.isTake[f]) {
                return true;
            }
            if (!t.isTake[e]) {
                return false;
            }
            if (way == WAY_ROWS) {
                return t.other[e] == t.other[f] && t.mate[e] < t.mate[f];
            }
            return way == WAY_BOXES && isAhead(t.mate[e], t.mate[f]);
        }

        private boolean isRace(Talk t, int e, int f) {
            return t.part[e] == t.part[f] && !isAhead(e, f);
        }

        int howManyRaces(Talk t) {
            int sum = 0;
            for (int e = 0; e < t.size; e++) {
                for (int f = e + 1; f < t.size; f++) {
                    if (isRace(t, e, f)) {
                        sum++;
                    }
                }
            }
            return sum;
        }

        int raceAt(Talk t, int k) {
            int passed = 0;
            for (int e = 0; e < t.size; e++) {
                for (int f = e + 1; f < t.size; f++) {
                    if (isRace(t, e, f)) {
                        if (passed == k) {
                            return RACE_BASE * e + f;
                        }
                        passed++;
                    }
                }
            }
            return BAD;
        }
    }

    /**
     * The moments of a talk. A moment is told by how many events each line has
     * done; these four numbers make one number, to the base of each line's
     * length and one, so that whatever comes later has a higher number.
     */
    private static final class Lattice {
        /** Of each cut: in how many orders it is come to; none, if it is no moment. */
        private final long[] rows = new long[CUTS];
        /** Of each moment: the messages under way, and the least of the greatest up to it. */
        private final int[] underWay = new int[CUTS];
        private final int[] leastTo = new int[CUTS];
        private final int[] step = new int[PARTS];
        private final int[] passed = new int[PARTS];
        /** Of each event its place on its line. */
        private final int[] place = new int[EVENTS];
        private long rowsInAll;
        private int reached;
        private int most;
        private int least;

        void walk(Talk t) {
            int cuts = prepare(t);
            for (int c = 0; c < cuts; c++) {
                if (rows[c] > 0) {
                    visit(t, c, cuts);
                }
                goToNextCut(t);
            }
            rowsInAll = rows[cuts - 1];
            least = leastTo[cuts - 1];
        }

        /** Everything as at the first moment: how many cuts there are, one at least. */
        private int prepare(Talk t) {
            int cuts = 1;
            for (int p = 0; p < PARTS; p++) {
                step[p] = cuts;
                passed[p] = 0;
                cuts *= t.lineSize[p] + 1;
                for (int k = 0; k < t.lineSize[p]; k++) {
                    int e = t.onLine(p, k);
                    if (e != ABSENT) {
                        place[e] = k;
                    }
                }
            }
            cuts = Math.min(cuts, CUTS);
            for (int c = 0; c < cuts; c++) {
                rows[c] = 0;
                leastTo[c] = EVENTS;
            }
            rows[0] = 1;
            underWay[0] = 0;
            leastTo[0] = 0;
            reached = 0;
            most = 0;
            return cuts;
        }

        /** The cut c is a moment, and every moment that leads to it was visited before. */
        private void visit(Talk t, int c, int cuts) {
            reached++;
            most = Math.max(most, underWay[c]);
            leastTo[c] = Math.max(leastTo[c], underWay[c]);
            for (int p = 0; p < PARTS; p++) {
                int later = c + step[p];
                int e = t.onLine(p, passed[p]);
                if (later < cuts && e != ABSENT && mayHappen(t, e)) {
                    rows[later] += rows[c];
                    underWay[later] = underWay[c] + (t.isTake[e] ? -1 : 1);
                    leastTo[later] = Math.min(leastTo[later], leastTo[c]);
                }
            }
        }

        /** Of an event whose line has come to it: a take has to wait for its send. */
        private boolean mayHappen(Talk t, int e) {
            if (!t.isTake[e]) {
                return true;
            }
            int send = t.mate[e];
            return send >= 0 && send < t.size && place[send] < passed[t.part[send]];
        }

        private void goToNextCut(Talk t) {
            for (int p = 0; p < PARTS; p++) {
                if (passed[p] < t.lineSize[p]) {
                    passed[p]++;
                    return;
                }
                passed[p] = 0;
            }
        }
    }

    /** Plays a mix, each part keeping to its line of the talk that the mix tells. */
    private static final class Player {
        private static final int LONGEST = PARTS * LONGEST_LINE;

        private final Talk[] talks;
        private final int[] passed = new int[PARTS];
        /** Of each part its next event, in the talk whose line it keeps to, or ABSENT. */
        private final int[] next = new int[PARTS];
        /** Of each pair of parts (from, to): the names sent, how many, how many taken. */
        private final int[] names = new int[PARTS * PARTS * LONGEST_LINE];
        private final int[] sent = new int[PARTS * PARTS];
        private final int[] taken = new int[PARTS * PARTS];
        /** Which part did each event. */
        private final int[] doer = new int[LONGEST];
        private int mix;
        private int done;
        private int left;

        Player(Talk[] talks) {
            this.talks = talks;
        }

        void perform(int wanted) {
            mix = wanted;
            done = 0;
            left = 0;
            for (int c = 0; c < PARTS * PARTS; c++) {
                sent[c] = 0;
                taken[c] = 0;
            }
            goToStart();
            for (int k = 0; k < LONGEST; k++) {
                int p = firstThatCan();
                if (p == ABSENT) {
                    return;
                }
                act(p);
                doer[k] = p;
                done++;
                goOn(p);
            }
        }

        boolean ends() {
            for (int p = 0; p < PARTS; p++) {
                if (next[p] != ABSENT) {
                    return false;
                }
            }
            return left == 0;
        }

        /** The events in the order in which they were played. */
        void copyInto(Talk t) {
            t.empty();
            goToStart();
            for (int k = 0; k < done && k < LONGEST; k++) {
                int p = doer[k];
                t.addCopy(talkOf(p), next[p]);
                goOn(p);
            }
        }

        private Talk talkOf(int p) {
            return talks[choice(mix, p)];
        }

        private void goToStart() {
            for (int p = 0; p < PARTS; p++) {
                passed[p] = 0;
                next[p] = talkOf(p).onLine(p, 0);
            }
        }

        private void goOn(int p) {
            passed[p]++;
            next[p] = talkOf(p).onLine(p, passed[p]);
        }

        private int firstThatCan() {
            for (int p = 0; p < PARTS; p++) {
                if (can(p)) {
                    return p;
                }
            }
            return ABSENT;
        }

        private boolean can(int p) {
            int e = next[p];
            if (e == ABSENT) {
                return false;
            }
            Talk t = talkOf(p);
            if (!t.isTake[e]) {
                return true;
            }
            int c = t.other[e] * PARTS + p;
            return taken[c] < sent[c] && names[c * LONGEST_LINE + taken[c]] == t.name[e];
        }

        private void act(int p) {
            int e = next[p];
            if (e == ABSENT) {
                return;
            }
            Talk t = talkOf(p);
            if (t.isTake[e]) {
                taken[t.other[e] * PARTS + p]++;
                left--;
            } else {
                post(p * PARTS + t.other[e], t.name[e]);
            }
        }

        private void post(int c, int what) {
            if (sent[c] < LONGEST_LINE) {
                names[c * LONGEST_LINE + sent[c]] = what;
                sent[c]++;
                left++;
            }
        }
    }

    /** Goes through the mixes of a set of talks, those of the same lines but once. */
    private static final class Mixer {
        private static final int ENDING = 0;
        private static final int STOPPED = 1;

        private final Talk[] talks;
        private final Player player;
        /** Of a part and a talk: the first talk of the set that has the same line there. */
        private final int[] first = new int[PARTS * TALKS];
        private int set;

        Mixer(Talk[] talks, Player player) {
            this.talks = talks;
            this.player = player;
        }

        int howMany(int wanted, int what) {
            choose(wanted);
            int sum = 0;
            for (int mix = 0; mix < MIXES; mix++) {
                if (isFirst(mix)) {
                    player.perform(mix);
                    if (isSuch(mix, what)) {
                        sum++;
                    }
                }
            }
            return sum;
        }

        int newAt(int wanted, int k) {
            choose(wanted);
            int before = 0;
            for (int mix = 0; mix < MIXES; mix++) {
                if (isFirst(mix) && !isOfOne(mix)) {
                    player.perform(mix);
                    if (player.ends()) {
                        if (before == k) {
                            return mix;
                        }
                        before++;
                    }
                }
            }
            return BAD;
        }

        private void choose(int wanted) {
            set = wanted;
            for (int p = 0; p < PARTS; p++) {
                for (int i = 0; i < TALKS; i++) {
                    first[p * TALKS + i] = has(i) ? firstLike(i, p) : ABSENT;
                }
            }
        }

        private boolean has(int i) {
            return (set & (1 << i)) != 0;
        }

        private int firstLike(int i, int p) {
            for (int j = 0; j < i; j++) {
                if (has(j) && talks[j].hasSameLine(talks[i], p)) {
                    return j;
                }
            }
            return i;
        }

        /** Part by part the lowest talk with that line: no lower mix has these lines. */
        private boolean isFirst(int mix) {
            for (int p = 0; p < PARTS; p++) {
                int i = choice(mix, p);
                if (first[p * TALKS + i] != i) {
                    return false;
                }
            }
            return true;
        }

        /** What is asked of a mix that was played just now. */
        private boolean isSuch(int mix, int what) {
            if (what == STOPPED) {
                return !player.ends();
            }
            return player.ends() && (what == ENDING || !isOfOne(mix));
        }

        /** Whether its lines are those of one of the talks. */
        private boolean isOfOne(int mix) {
            for (int i = 0; i < TALKS; i++) {
                if (has(i) && isOf(mix, i)) {
                    return true;
                }
            }
            return false;
        }

        private boolean isOf(int mix, int i) {
            for (int p = 0; p < PARTS; p++) {
                if (first[p * TALKS + i] != choice(mix, p)) {
                    return false;
                }
            }
            return true;
        }
    }
}
