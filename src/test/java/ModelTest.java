import java.util.ArrayDeque;
import java.util.ArrayList;
import java.util.Arrays;
import java.util.Deque;
import java.util.HashMap;
import java.util.HashSet;
import java.util.List;
import java.util.Map;
import java.util.Random;
import java.util.Set;

/**
 * Runs of calls by a fixed seed, each answer held against a model that follows the
 * document's words one by one, without the shortcuts that the class takes.
 */
public final class ModelTest {
    private static final int RUNS = 1500;
    private static final int CALLS = 512;
    private static int wrong = 0;

    /** One event: the part that does it, the other part, the name, and its partner. */
    private record Event(boolean isTake, int part, int other, int name, int mate) { }

    private static final class Model {
        private final StringBuilder text = new StringBuilder();
        private final List<List<Event>> talks = new ArrayList<>();

        Model() {
            for (int i = 0; i < 4; i++) {
                talks.add(new ArrayList<>());
            }
        }

        private boolean noTalk(int i) {
            return i < 0 || i > 3;
        }

        private boolean noEvent(int i, int e) {
            return noTalk(i) || e < 0 || e >= talks.get(i).size();
        }

        int type(long v, int n) {
            if (n < 1 || n > 8) {
                return -1;
            }
            if (text.length() + n > 300) {
                return -3;
            }
            for (int k = n; k > 0; k--) {
                text.append((char) ((v >> (8 * k - 8)) & 255));
            }
            return text.length();
        }

        int clear() {
            int had = text.length();
            text.setLength(0);
            return had;
        }

        int talk(int i) {
            if (noTalk(i)) {
                return -1;
            }
            List<Event> events = new ArrayList<>();
            int fault = read(text.toString(), events);
            if (fault >= 0) {
                return -10 - fault;
            }
            text.setLength(0);
            talks.set(i, events);
            return events.size();
        }

        private static int read(String s, List<Event> events) {
            List<String> tokens = new ArrayList<>();
            List<Integer> places = new ArrayList<>();
            java.util.regex.Matcher m = java.util.regex.Pattern.compile("[a-z]+|[^ a-z]", java.util.regex.Pattern.DOTALL)
                    .matcher(s);
            while (m.find()) {
                tokens.add(m.group());
                places.add(m.start());
            }
            int sends = 0;
            for (int k = 0; k < tokens.size(); k++) {
                String t = tokens.get(k);
                String verb = tokens.get(k - k % 5);
                boolean fits = switch (k % 5) {
                    case 0 -> t.equals("send") && sends < 10 || t.equals("take");
                    case 1 -> t.matches("[A-D]");
                    case 2 -> t.matches("[A-D]") && !t.equals(tokens.get(k - 1));
                    case 3 -> t.matches("[a-h]") && (verb.equals("send") || waiting(events,
                            tokens.get(k - 2).charAt(0) - 'A', tokens.get(k - 1).charAt(0) - 'A', t.charAt(0) - 'a') >= 0);
                    default -> t.equals(";");
                };
                if (!fits) {
                    return places.get(k);
                }
                if (k % 5 == 4) {
                    int p = tokens.get(k - 3).charAt(0) - 'A';
                    int q = tokens.get(k - 2).charAt(0) - 'A';
                    int name = tokens.get(k - 1).charAt(0) - 'a';
                    if (verb.equals("send")) {
                        sends++;
                        events.add(new Event(false, p, q, name, -1));
                    } else {
                        addTake(events, p, q, name);
                    }
                }
            }
            return tokens.size() % 5 == 0 && events.stream().noneMatch(e -> e.mate < 0) ? -1 : s.length();
        }

        private static int waiting(List<Event> events, int p, int q, int name) {
            return events.indexOf(new Event(false, p, q, name, -1));
        }

        private static void addTake(List<Event> events, int p, int q, int name) {
            int send = waiting(events, p, q, name);
            events.set(send, new Event(false, p, q, name, events.size()));
            events.add(new Event(true, q, p, name, send));
        }

        int about(int i, int what) {
            if (noTalk(i) || what < 0 || what > 2) {
                return -1;
            }
            int bits = 0;
            for (Event e : talks.get(i)) {
                bits |= 1 << e.part;
            }
            return what == 0 ? talks.get(i).size() : what == 1 ? talks.get(i).size() / 2 : bits;
        }

        int event(int i, int e, int what) {
            if (noEvent(i, e) || what < 0 || what > 4) {
                return -1;
            }
            Event v = talks.get(i).get(e);
            return new int[] {v.isTake ? 1 : 0, v.part, v.other, v.name, v.mate}[what];
        }

        private List<Integer> lineOf(int i, int part) {
            List<Integer> line = new ArrayList<>();
            for (int e = 0; e < talks.get(i).size(); e++) {
                if (talks.get(i).get(e).part == part) {
                    line.add(e);
                }
            }
            return line;
        }

        int line(int i, int part, int k) {
            if (noTalk(i) || part < 0 || part > 3) {
                return -1;
            }
            List<Integer> line = lineOf(i, part);
            return k == -1 ? line.size() : k < 0 || k >= line.size() ? -1 : line.get(k);
        }

        private static void close(boolean[][] r) {
            for (int k = 0; k < r.length; k++) {
                for (int e = 0; e < r.length; e++) {
                    for (int f = 0; f < r.length; f++) {
                        r[e][f] |= r[e][k] && r[k][f];
                    }
                }
            }
        }

        private boolean[][] drawnOf(int i) {
            List<Event> t = talks.get(i);
            boolean[][] r = new boolean[t.size()][t.size()];
            for (int p = 0; p < 4; p++) {
                List<Integer> line = lineOf(i, p);
                for (int k = 1; k < line.size(); k++) {
                    r[line.get(k - 1)][line.get(k)] = true;
                }
            }
            for (int e = 0; e < t.size(); e++) {
                if (!t.get(e).isTake) {
                    r[e][t.get(e).mate] = true;
                }
            }
            close(r);
            return r;
        }

        private boolean[][] keptOf(int i, int way) {
            List<Event> t = talks.get(i);
            boolean[][] drawn = drawnOf(i);
            boolean[][] r = new boolean[t.size()][t.size()];
            while (true) {
                boolean[][] before = Arrays.stream(r).map(boolean[]::clone).toArray(boolean[][]::new);
                for (int e = 0; e < t.size(); e++) {
                    for (int f = 0; f < t.size(); f++) {
                        Event v = t.get(e);
                        Event w = t.get(f);
                        boolean onOneLine = v.part == w.part && drawn[e][f];
                        boolean takes = onOneLine && v.isTake && w.isTake;
                        r[e][f] |= onOneLine && !w.isTake;
                        r[e][f] |= !v.isTake && v.mate == f;
                        r[e][f] |= way == 1 && takes && v.other == w.other && drawn[v.mate][w.mate];
                        r[e][f] |= way == 2 && takes && r[v.mate][w.mate];
                    }
                }
                close(r);
                if (Arrays.deepEquals(before, r)) {
                    return r;
                }
            }
        }

        int drawn(int i, int e, int f) {
            return noEvent(i, e) || noEvent(i, f) ? -1 : drawnOf(i)[e][f] ? 1 : 0;
        }

        int kept(int i, int way, int e, int f) {
            return noEvent(i, e) || noEvent(i, f) || way < 0 || way > 2 ? -1 : keptOf(i, way)[e][f] ? 1 : 0;
        }

        int race(int i, int way, int k) {
            if (noTalk(i) || way < 0 || way > 2) {
                return -1;
            }
            boolean[][] drawn = drawnOf(i);
            boolean[][] kept = keptOf(i, way);
            List<Integer> races = new ArrayList<>();
            for (int e = 0; e < drawn.length; e++) {
                for (int f = 0; f < drawn.length; f++) {
                    if (talks.get(i).get(e).part == talks.get(i).get(f).part && drawn[e][f] && !kept[e][f]) {
                        races.add(32 * e + f);
                    }
                }
            }
            return k == -1 ? races.size() : k < 0 || k >= races.size() ? -1 : races.get(k);
        }

        /** Of every set of events that is a moment: in how many orders it is come to, and the least of the greatest. */
        private Map<Integer, long[]> momentsOf(int i) {
            boolean[][] drawn = drawnOf(i);
            int n = drawn.length;
            Map<Integer, long[]> layer = new HashMap<>();
            Map<Integer, long[]> all = new HashMap<>();
            layer.put(0, new long[] {1, 0});
            while (!layer.isEmpty()) {
                all.putAll(layer);
                Map<Integer, long[]> later = new HashMap<>();
                for (Map.Entry<Integer, long[]> m : layer.entrySet()) {
                    for (int f = 0; f < n; f++) {
                        if ((m.getKey() >> f & 1) == 0 && allAhead(drawn, f, m.getKey())) {
                            int set = m.getKey() | 1 << f;
                            long greatest = Math.max(m.getValue()[1], underWay(i, set));
                            long[] to = later.computeIfAbsent(set, x -> new long[] {0, 99});
                            to[0] += m.getValue()[0];
                            to[1] = Math.min(to[1], greatest);
                        }
                    }
                }
                layer = later;
            }
            return all;
        }

        private static boolean allAhead(boolean[][] drawn, int f, int set) {
            for (int e = 0; e < drawn.length; e++) {
                if (drawn[e][f] && (set >> e & 1) == 0) {
                    return false;
                }
            }
            return true;
        }

        private int underWay(int i, int set) {
            int sum = 0;
            for (int e = 0; e < talks.get(i).size(); e++) {
                if ((set >> e & 1) == 1) {
                    sum += talks.get(i).get(e).isTake ? -1 : 1;
                }
            }
            return sum;
        }

        private int everything(int i) {
            return (1 << talks.get(i).size()) - 1;
        }

        long orders(int i) {
            return noTalk(i) ? -1 : momentsOf(i).get(everything(i))[0];
        }

        int moments(int i) {
            return noTalk(i) ? -1 : momentsOf(i).size();
        }

        int under(int i, int what) {
            if (noTalk(i) || what < 0 || what > 1) {
                return -1;
            }
            Map<Integer, long[]> all = momentsOf(i);
            if (what == 1) {
                return (int) all.get(everything(i))[1];
            }
            int most = 0;
            for (int set : all.keySet()) {
                most = Math.max(most, underWay(i, set));
            }
            return most;
        }

        private String lineText(int i, int part) {
            StringBuilder b = new StringBuilder();
            for (int e : lineOf(i, part)) {
                Event v = talks.get(i).get(e);
                b.append(v.isTake ? 't' : 's').append(v.other).append(v.name).append(' ');
            }
            return b.toString();
        }

        private String mixText(int mix) {
            return lineText(mix / 64, 0) + "|" + lineText(mix / 16 % 4, 1) + "|" + lineText(mix / 4 % 4, 2) + "|"
                    + lineText(mix % 4, 3);
        }

        int alike(int i, int j) {
            return noTalk(i) || noTalk(j) ? -1 : mixText(85 * i).equals(mixText(85 * j)) ? 1 : 0;
        }

        int behind(int i, int j, int to) {
            if (noTalk(i) || noTalk(j) || noTalk(to)) {
                return -1;
            }
            List<Event> all = new ArrayList<>(talks.get(i));
            for (Event v : talks.get(j)) {
                all.add(new Event(v.isTake, v.part, v.other, v.name, v.mate + talks.get(i).size()));
            }
            if (all.size() > 20) {
                return -3;
            }
            talks.set(to, all);
            return all.size();
        }

        /** Plays a mix, writing down what is done; answers how many are left over, or less 100, if lines have not ended. */
        private int perform(int mix, List<Event> done) {
            List<Deque<Event>> lines = new ArrayList<>();
            for (int p = 0; p < 4; p++) {
                int i = mix / new int[] {64, 16, 4, 1}[p] % 4;
                Deque<Event> line = new ArrayDeque<>();
                for (int e : lineOf(i, p)) {
                    line.add(talks.get(i).get(e));
                }
                lines.add(line);
            }
            Map<Integer, Deque<Integer>> rows = new HashMap<>();
            boolean moved = true;
            while (moved) {
                moved = false;
                for (int p = 0; p < 4 && !moved; p++) {
                    Event v = lines.get(p).peek();
                    if (v == null) {
                        continue;
                    }
                    if (!v.isTake) {
                        rows.computeIfAbsent(4 * p + v.other, x -> new ArrayDeque<>()).add(v.name);
                        done.add(new Event(false, p, v.other, v.name, -1));
                        moved = true;
                    } else {
                        Deque<Integer> row = rows.computeIfAbsent(4 * v.other + p, x -> new ArrayDeque<>());
                        if (!row.isEmpty() && row.peek() == v.name) {
                            row.remove();
                            addTake(done, v.other, p, v.name);
                            moved = true;
                        }
                    }
                    if (moved) {
                        lines.get(p).remove();
                    }
                }
            }
            int left = rows.values().stream().mapToInt(Deque::size).sum();
            return lines.stream().allMatch(Deque::isEmpty) ? left : -100 + left;
        }

        int play(int mix, int what) {
            if (mix < 0 || mix > 255 || what < 0 || what > 2) {
                return -1;
            }
            List<Event> done = new ArrayList<>();
            int left = perform(mix, done);
            return what == 0 ? done.size() : what == 1 ? (left == 0 ? 1 : 0) : left < 0 ? left + 100 : left;
        }

        /** Ends, stuck and new ones of a set. */
        private List<List<Integer>> sorts(int set) {
            List<List<Integer>> all = List.of(new ArrayList<>(), new ArrayList<>(), new ArrayList<>());
            Set<String> own = new HashSet<>();
            for (int i = 0; i < 4; i++) {
                if ((set >> i & 1) == 1) {
                    own.add(mixText(85 * i));
                }
            }
            Set<String> seen = new HashSet<>();
            for (int mix = 0; mix < 256; mix++) {
                int used = 1 << mix / 64 | 1 << mix / 16 % 4 | 1 << mix / 4 % 4 | 1 << mix % 4;
                if ((used & ~set) != 0 || !seen.add(mixText(mix))) {
                    continue;
                }
                boolean ends = perform(mix, new ArrayList<>()) == 0;
                all.get(ends ? 0 : 1).add(mix);
                if (ends && !own.contains(mixText(mix))) {
                    all.get(2).add(mix);
                }
            }
            return all;
        }

        int mixes(int set, int what) {
            return set < 1 || set > 15 || what < 0 || what > 2 ? -1 : sorts(set).get(what).size();
        }

        int fresh(int set, int k) {
            if (set < 1 || set > 15) {
                return -1;
            }
            List<Integer> all = sorts(set).get(2);
            return k < 0 || k >= all.size() ? -1 : all.get(k);
        }

        int take(int mix, int to) {
            if (mix < 0 || mix > 255 || noTalk(to)) {
                return -1;
            }
            List<Event> done = new ArrayList<>();
            if (perform(mix, done) != 0) {
                return -2;
            }
            if (done.size() > 20) {
                return -3;
            }
            talks.set(to, done);
            return done.size();
        }

        int count(int what) {
            int events = talks.stream().mapToInt(List::size).sum();
            return what == 0 ? events : what == 1 ? text.length() : -1;
        }
    }

    private static final class Run {
        private final int seed;
        private final Random random;
        private final DrawnTalks x = new DrawnTalks();
        private final Model m = new Model();
        private int calls = 0;
        private final int names;
        private final int parts;
        private final int longest;

        Run(int seed) {
            this.seed = seed;
            random = new Random(seed);
            names = 1 + random.nextInt(3);
            parts = 2 + random.nextInt(3);
            longest = 1 + random.nextInt(11);
        }

        private void due(String call, long got, long want) {
            calls++;
            if (got != want) {
                wrong++;
                if (wrong < 50) {
                    System.out.println("seed " + seed + ", call " + calls + ": " + call + " answered " + got
                            + ", due is " + want);
                }
            }
        }

        void go() {
            while (calls < CALLS) {
                if (random.nextInt(8) == 0) {
                    tell();
                } else {
                    ask(random.nextInt(20));
                }
            }
        }

        /** A number that mostly is as told (low .. high), sometimes near it or far off. */
        private int some(int low, int high) {
            int kind = random.nextInt(40);
            if (kind == 0) {
                return low - 1 - random.nextInt(2);
            }
            if (kind == 1) {
                return high + 1 + random.nextInt(2);
            }
            if (kind == 2) {
                return random.nextInt();
            }
            return low + random.nextInt(high - low + 1);
        }

        private int someEvent(int i) {
            return some(0, Math.max(1, m.about(i, 0)) - 1);
        }

        private void tell() {
            String text = random.nextInt(4) == 0 ? broken(validText()) : validText();
            due("clear", x.clear(), m.clear());
            for (int k = 0; k < text.length();) {
                int n = Math.min(text.length() - k, random.nextInt(10) == 0 ? 1 + random.nextInt(8) : 8);
                long v = random.nextLong();
                for (int c = 0; c < n; c++) {
                    v = v << 8 | text.charAt(k + c);
                }
                due("type(" + v + ", " + n + ")", x.type(v, n), m.type(v, n));
                k += n;
            }
            int i = some(0, 3);
            due("talk(" + i + ") of " + text, x.talk(i), m.talk(i));
        }

        private String blanks(int least) {
            return " ".repeat(Math.max(least, random.nextInt(6) - 4));
        }

        private String validText() {
            StringBuilder b = new StringBuilder();
            List<String> open = new ArrayList<>();
            int sends = random.nextInt(longest);
            if (longest == 11 && random.nextBoolean()) {
                sends = 10;
            }
            int gap = random.nextInt(2);
            while (sends > 0 || !open.isEmpty()) {
                boolean sending = open.isEmpty() || sends > 0 && random.nextInt(5) < 3;
                String what;
                if (sending) {
                    int p = random.nextInt(parts);
                    int q = (p + 1 + random.nextInt(parts - 1)) % parts;
                    what = "" + (char) ('A' + p) + blanks(gap) + (char) ('A' + q) + blanks(gap)
                            + (char) ('a' + random.nextInt(names));
                    sends--;
                    open.add(what);
                } else {
                    what = open.remove(random.nextInt(open.size()));
                }
                b.append(blanks(0)).append(sending ? "send" : "take").append(blanks(gap)).append(what).append(blanks(0))
                        .append(";").append(blanks(gap));
            }
            return b.toString();
        }

        private String broken(String text) {
            StringBuilder b = new StringBuilder(text);
            String signs = " ;ABCDEabchisendtakeZz1\t\n\0\u00ff{`@[";
            for (int k = 1 + random.nextInt(2); k > 0; k--) {
                int at = random.nextInt(b.length() + 1);
                char c = signs.charAt(random.nextInt(signs.length()));
                int kind = random.nextInt(4);
                if (kind == 0) {
                    b.insert(at, c);
                } else if (kind == 1 && at < b.length()) {
                    b.setCharAt(at, c);
                } else if (kind == 2 && at < b.length()) {
                    b.deleteCharAt(at);
                } else if (kind == 3) {
                    b.setLength(at);
                }
            }
            return b.toString();
        }

        private void ask(int which) {
            int i = some(0, 3);
            int j = some(0, 3);
            int to = random.nextInt(3) == 0 ? some(0, 3) : 3;
            int mix = some(0, 255);
            int set = some(1, 15);
            int way = some(0, 2);
            int e = someEvent(i);
            int f = someEvent(i);
            int k = some(-1, 4);
            int what = some(0, 2);
            String told = "(i " + i + ", j " + j + ", to " + to + ", mix " + mix + ", set " + set + ", way " + way + ", e "
                    + e + ", f " + f + ", k " + k + ", what " + what + ")";
            switch (which) {
                case 0 -> {
                    int n = some(1, 8);
                    due("type" + told, x.type(0x2020202020202020L, n), m.type(0x2020202020202020L, n));
                }
                case 1 -> due("clear" + told, x.clear(), m.clear());
                case 2 -> due("talk" + told, x.talk(i), m.talk(i));
                case 3 -> due("about" + told, x.about(i, what), m.about(i, what));
                case 4 -> {
                    int of = some(0, 4);
                    due("event" + told + of, x.event(i, e, of), m.event(i, e, of));
                }
                case 5 -> due("line" + told, x.line(i, j, k), m.line(i, j, k));
                case 6 -> due("drawn" + told, x.drawn(i, e, f), m.drawn(i, e, f));
                case 7 -> due("kept" + told, x.kept(i, way, e, f), m.kept(i, way, e, f));
                case 8 -> due("race" + told, x.race(i, way, k), m.race(i, way, k));
                case 9 -> due("orders" + told, x.orders(i), m.orders(i));
                case 10 -> due("moments" + told, x.moments(i), m.moments(i));
                case 11 -> due("under" + told, x.under(i, what), m.under(i, what));
                case 12 -> due("alike" + told, x.alike(i, j), m.alike(i, j));
                case 13 -> due("behind" + told, x.behind(i, j, to), m.behind(i, j, to));
                case 14 -> due("play" + told, x.play(mix, what), m.play(mix, what));
                case 15 -> due("mixes" + told, x.mixes(set, what), m.mixes(set, what));
                case 16 -> due("fresh" + told, x.fresh(set, k), m.fresh(set, k));
                case 17 -> due("take" + told, x.take(mix, to), m.take(mix, to));
                case 18 -> due("count" + told, x.count(what), m.count(what));
                default -> {
                    due("race" + told, x.race(i, 2, -1), m.race(i, 2, -1));
                    int fresh = m.fresh(set, 0);
                    due("take" + fresh + told, x.take(fresh, to), m.take(fresh, to));
                }
            }
        }
    }

    public static void main(String[] args) {
        int runs = args.length > 0 ? Integer.parseInt(args[0]) : RUNS;
        for (int seed = 0; seed < runs; seed++) {
            new Run(seed).go();
        }
        System.out.println(wrong == 0 ? "class and model agree" : wrong + " answers are not the model's");
        if (wrong != 0) {
            System.exit(1);
        }
    }
}
