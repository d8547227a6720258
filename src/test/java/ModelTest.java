import java.math.BigInteger;
import java.util.ArrayDeque;
import java.util.ArrayList;
import java.util.Arrays;
import java.util.Collections;
import java.util.Deque;
import java.util.HashMap;
import java.util.List;
import java.util.Map;
import java.util.Random;
import java.util.TreeSet;
import java.util.regex.Matcher;
import java.util.regex.Pattern;

/**
 * Random runs on the program and, call by call, on a model that was written from the document alone
 * and works another way: it tries every period at which the arrivals' numbers can change.
 */
public final class ModelTest {
    private static final int BAD = -1, STATE = -2, FULL = -3, NONE = -9, NO = -1000000;
    private static final int RUNS = 700;
    private static final int CALLS = 220;

    /** A fraction with a lower number above 0. */
    private static final class Ratio implements Comparable<Ratio> {
        final long up;
        final long down;

        Ratio(long up, long down) {
            long g = BigInteger.valueOf(up).gcd(BigInteger.valueOf(down)).longValue();
            this.up = up / g;
            this.down = down / g;
        }

        @Override
        public int compareTo(Ratio o) {
            return Long.compare(up * o.down, o.up * down);
        }
    }

    private static final class Numbering {
        final int[] numbers;
        final Ratio low;
        final Ratio high;

        Numbering(int[] numbers, Ratio low, Ratio high) {
            this.numbers = numbers;
            this.low = low;
            this.high = high;
        }
    }

    private static final class State {
        final TreeSet<Integer> times = new TreeSet<>();
        int low = 100;
        int high = 200;
        int slack = 2;

        State copy() {
            State s = new State();
            s.times.addAll(times);
            s.low = low;
            s.high = high;
            s.slack = slack;
            return s;
        }

        List<Integer> list() {
            return new ArrayList<>(times);
        }

        @Override
        public String toString() {
            return times + " " + low + " " + high + " " + slack;
        }
    }

    private static final class Model {
        State now = new State();
        final Deque<State> past = new ArrayDeque<>();
        final State[] images = new State[2];
        final StringBuilder text = new StringBuilder();
        final Map<String, List<Numbering>> known = new HashMap<>();

        /** The numbers that fit at one period, or null: not more than one can, 4 slacks being less. */
        static int[] numbersAt(Ratio p, List<Integer> t, int slack) {
            int[] n = new int[t.size()];
            for (int j = 1; j < t.size(); j++) {
                long apart = t.get(j) - t.get(0);
                long near = apart * p.down / p.up;
                n[j] = -1;
                for (long m = near; m <= near + 1; m++) {
                    if (Math.abs(apart * p.down - m * p.up) <= 2L * slack * p.down) {
                        n[j] = (int) m;
                    }
                }
            }
            for (int i = 0; i < n.length; i++) {
                for (int j = i + 1; j < n.length; j++) {
                    long apart = t.get(j) - t.get(i);
                    long m = n[j] - n[i];
                    if (m < 1 || Math.abs(apart * p.down - m * p.up) > 2L * slack * p.down) {
                        return null;
                    }
                }
            }
            return n;
        }

        List<Numbering> numberings(State s) {
            List<Numbering> had = known.get(s.toString());
            if (had != null) {
                return had;
            }
            List<Integer> t = s.list();
            List<Numbering> found = new ArrayList<>();
            if (!t.isEmpty()) {
                TreeSet<Ratio> periods = new TreeSet<>();
                Ratio low = new Ratio(s.low, 1);
                Ratio high = new Ratio(s.high, 1);
                periods.add(low);
                periods.add(high);
                for (int i = 0; i < t.size(); i++) {
                    for (int j = i + 1; j < t.size(); j++) {
                        for (int side = -1; side <= 1; side += 2) {
                            int apart = t.get(j) - t.get(i) + side * 2 * s.slack;
                            for (int m = 1; m * s.low <= apart; m++) {
                                Ratio p = new Ratio(apart, m);
                                if (p.compareTo(low) >= 0 && p.compareTo(high) <= 0) {
                                    periods.add(p);
                                }
                            }
                        }
                    }
                }
                Map<String, Numbering> all = new HashMap<>();
                for (Ratio p : periods) {
                    int[] n = numbersAt(p, t, s.slack);
                    if (n != null) {
                        String key = Arrays.toString(n);
                        Numbering old = all.get(key);
                        all.put(key, new Numbering(n, old == null ? p : old.low, p));
                    }
                }
                found.addAll(all.values());
                found.sort((a, b) -> Arrays.compare(a.numbers, b.numbers));
            }
            known.put(s.toString(), found);
            return found;
        }

        int standing(State s) {
            return numberings(s).size();
        }

        /** The counts, so many or more, of two times by a box. */
        static List<Integer> countsBy(Ratio low, Ratio high, int steps, int apart, int slack) {
            List<Integer> found = new ArrayList<>();
            for (int n = steps; n <= 400; n++) {
                boolean tooSlow = n * low.up > (apart + 2L * slack) * low.down;
                boolean tooFast = n * high.up < (apart - 2L * slack) * high.down;
                if (!tooSlow && !tooFast) {
                    found.add(n);
                }
            }
            return found;
        }

        /** Low and high, or null: EMPTY. All cuts of a round are by the box that the round found. */
        static Ratio[] narrow(State s) {
            List<Integer> t = s.list();
            Ratio low = new Ratio(s.low, 1);
            Ratio high = new Ratio(s.high, 1);
            while (true) {
                Ratio newLow = low;
                Ratio newHigh = high;
                for (int i = 0; i < t.size(); i++) {
                    for (int j = i + 1; j < t.size(); j++) {
                        int apart = t.get(j) - t.get(i);
                        List<Integer> c = countsBy(low, high, j - i, apart, s.slack);
                        if (c.isEmpty()) {
                            return null;
                        }
                        if (c.size() == 1) {
                            Ratio a = new Ratio(apart - 2 * s.slack, c.get(0));
                            Ratio b = new Ratio(apart + 2 * s.slack, c.get(0));
                            newLow = a.compareTo(newLow) > 0 ? a : newLow;
                            newHigh = b.compareTo(newHigh) < 0 ? b : newHigh;
                        }
                    }
                }
                if (newLow.compareTo(newHigh) > 0) {
                    return null;
                }
                if (newLow.compareTo(low) == 0 && newHigh.compareTo(high) == 0) {
                    return new Ratio[] {low, high};
                }
                low = newLow;
                high = newHigh;
            }
        }

        int type(int letter) {
            if (letter < 0 || letter > 255) {
                return BAD;
            }
            if (text.length() == 100) {
                return FULL;
            }
            text.append((char) letter);
            return text.length();
        }

        int clear() {
            int had = text.length();
            text.setLength(0);
            return had;
        }

        int heard() {
            Matcher m = Pattern.compile("[0-9]+|[^ ]", Pattern.DOTALL).matcher(text);
            State s = new State();
            String awaited = "";
            boolean boxed = false;
            int items = 0;
            while (m.find()) {
                String token = m.group();
                int fault = -10 - m.start();
                if (awaited.isEmpty()) {
                    if (token.equals("b") && !boxed) {
                        awaited = "LHS;";
                        boxed = true;
                    } else if (token.equals("t") && s.times.size() < 7) {
                        awaited = "T;";
                    } else {
                        return fault;
                    }
                    continue;
                }
                char role = awaited.charAt(0);
                awaited = awaited.substring(1);
                if (role == ';') {
                    if (!token.equals(";")) {
                        return fault;
                    }
                    items++;
                    continue;
                }
                if (!token.matches("0|[1-9][0-9]{0,3}") || !accepts(s, role, Integer.parseInt(token))) {
                    return fault;
                }
            }
            if (!awaited.isEmpty()) {
                return -10 - text.length();
            }
            now = s;
            past.clear();
            images[0] = null;
            images[1] = null;
            text.setLength(0);
            return items;
        }

        static boolean accepts(State s, char role, int n) {
            switch (role) {
                case 'L':
                    s.low = n;
                    return n >= 10 && n <= 999;
                case 'H':
                    s.high = n;
                    return n >= s.low && n <= 999;
                case 'S':
                    s.slack = n;
                    return n <= 99 && 4 * n < s.low;
                default:
                    return n <= 2999 && s.times.add(n);
            }
        }

        int time(int k) {
            return k < 0 || k >= now.times.size() ? BAD : now.list().get(k);
        }

        void change() {
            past.push(now);
            if (past.size() > 10) {
                past.removeLast();
            }
            now = now.copy();
        }

        int refusal(int time) {
            if (time < 0 || time > 2999) {
                return BAD;
            }
            if (now.times.contains(time)) {
                return STATE;
            }
            return now.times.size() == 7 ? FULL : 0;
        }

        int adds(int time) {
            if (refusal(time) != 0) {
                return refusal(time);
            }
            change();
            now.times.add(time);
            return now.times.headSet(time).size();
        }

        int strikes(int k) {
            if (k < 0 || k >= now.times.size()) {
                return BAD;
            }
            change();
            int time = now.list().get(k);
            now.times.remove(time);
            return time;
        }

        int boxes(int low, int high, int slack) {
            if (low < 10 || high > 999 || low > high || slack < 0 || slack > 99 || 4 * slack >= low) {
                return BAD;
            }
            change();
            now.low = low;
            now.high = high;
            now.slack = slack;
            return standing(now);
        }

        int undo() {
            if (past.isEmpty()) {
                return STATE;
            }
            now = past.pop();
            return past.size();
        }

        static int ofList(List<Integer> all, int what) {
            if (what == 0) {
                return all.size();
            }
            return all.isEmpty() ? NONE : what == 1 ? Collections.min(all) : Collections.max(all);
        }

        int counts(int i, int j, int way, int what) {
            if (i < 0 || i >= j || j >= now.times.size() || way < 0 || way > 1 || what < 0 || what > 2) {
                return BAD;
            }
            Ratio[] box = {new Ratio(now.low, 1), new Ratio(now.high, 1)};
            if (way == 1) {
                box = narrow(now);
            }
            if (box == null) {
                return STATE;
            }
            int apart = now.list().get(j) - now.list().get(i);
            return ofList(countsBy(box[0], box[1], j - i, apart, now.slack), what);
        }

        static int part(Ratio low, Ratio high, int what) {
            long[] parts = {low.up, low.down, high.up, high.down};
            return (int) parts[what];
        }

        int narrowed(int what) {
            if (what < 0 || what > 3) {
                return BAD;
            }
            Ratio[] box = narrow(now);
            return box == null ? NONE : part(box[0], box[1], what);
        }

        int number(int k, int arrival) {
            if (k < 0 || arrival < 0 || arrival >= now.times.size()) {
                return BAD;
            }
            return k >= standing(now) ? NONE : numberings(now).get(k).numbers[arrival];
        }

        int box(int k, int what) {
            if (k < 0 || what < 0 || what > 3) {
                return BAD;
            }
            if (k >= standing(now)) {
                return NONE;
            }
            Numbering n = numberings(now).get(k);
            return part(n.low, n.high, what);
        }

        int held(int gap, int what) {
            if (gap < 0 || gap >= now.times.size() - 1 || what < 0 || what > 2) {
                return BAD;
            }
            TreeSet<Integer> all = new TreeSet<>();
            for (Numbering n : numberings(now)) {
                all.add(n.numbers[gap + 1] - n.numbers[gap]);
            }
            return ofList(new ArrayList<>(all), what);
        }

        int bend(int i, int j, int k, int what) {
            if (i < 0 || i >= j || j >= k || k >= now.times.size() || what < 0 || what > 1) {
                return NO;
            }
            if (standing(now) == 0) {
                return NO;
            }
            List<Integer> t = now.list();
            int[] n = numberings(now).get(0).numbers;
            long a = t.get(j) - t.get(i);
            long b = n[j] - n[i];
            long c = t.get(k) - t.get(j);
            long d = n[k] - n[j];
            Ratio r = new Ratio(c * b - a * d, b * d);
            return (int) (what == 0 ? r.up : r.down);
        }

        int leftBy(int time) {
            State s = now.copy();
            s.times.add(time);
            return standing(s);
        }

        int left(int time) {
            return refusal(time) != 0 ? refusal(time) : leftBy(time);
        }

        int listen() {
            if (now.times.size() == 7) {
                return FULL;
            }
            int best = NONE;
            int fewest = Integer.MAX_VALUE;
            int last = now.times.isEmpty() ? 2999 : now.times.last();
            for (int time = last + 1; time <= Math.min(2999, last + 100); time++) {
                int many = leftBy(time);
                if (many > 0 && many < fewest) {
                    best = time;
                    fewest = many;
                }
            }
            return best;
        }

        int odds(int x, int what) {
            if (x < 0 || x > 10 || what < 0 || what > 1) {
                return BAD;
            }
            List<Integer> t = now.list();
            long up = 0;
            for (int lost = 0; lost < 1 << t.size(); lost++) {
                State s = now.copy();
                long weight = 1;
                for (int a = 0; a < t.size(); a++) {
                    boolean gone = (lost >> a & 1) == 1;
                    weight *= gone ? x : 10 - x;
                    if (gone) {
                        s.times.remove(t.get(a));
                    }
                }
                up += weight != 0 && standing(s) == 1 ? weight : 0;
            }
            Ratio r = new Ratio(up, BigInteger.TEN.pow(t.size()).longValue());
            return (int) (what == 0 ? r.up : r.down);
        }

        int keep(int image) {
            if (image < 0 || image > 1) {
                return BAD;
            }
            images[image] = now.copy();
            return now.times.size();
        }

        int back(int image) {
            if (image < 0 || image > 1) {
                return BAD;
            }
            if (images[image] == null) {
                return STATE;
            }
            now = images[image].copy();
            past.clear();
            return now.times.size();
        }

        int certain() {
            int bits = 0;
            List<Numbering> all = numberings(now);
            for (int a = 0; a < now.times.size() && !all.isEmpty(); a++) {
                TreeSet<Integer> seen = new TreeSet<>();
                for (Numbering n : all) {
                    seen.add(n.numbers[a]);
                }
                bits |= seen.size() == 1 ? 1 << a : 0;
            }
            return bits;
        }

        int count(int what) {
            if (what < 0 || what > 7) {
                return BAD;
            }
            int[] all = {now.times.size(), now.low, now.high, now.slack, 0, 0, text.length(), past.size()};
            return what == 4 ? standing(now) : what == 5 ? certain() : all[what];
        }
    }

    /** One run: the same calls go to both. */
    private static final class Run {
        final Random random;
        final PulseTurns x = new PulseTurns();
        final Model model = new Model();
        final StringBuilder story = new StringBuilder();
        int calls = 0;
        double period = 100;
        // Few runs have short periods, for the model is slow there.
        final int leastLow;

        Run(int seed) {
            random = new Random(seed);
            leastLow = seed % 10 == 0 ? 10 : seed % 10 < 4 ? 25 : 60;
        }

        void due(String call, int got, int want) {
            calls++;
            story.append(call).append(" = ").append(want).append('\n');
            if (got != want) {
                System.out.print(story);
                System.out.println("the last call answered " + got);
                System.exit(1);
            }
        }

        int below(int n) {
            return random.nextInt(n);
        }

        /** A number from low to high, now and then just outside or far away. */
        int around(int low, int high) {
            if (below(15) == 0) {
                int[] outside = {low - 1, high + 1, low - 1, high + 1, Integer.MIN_VALUE, Integer.MAX_VALUE};
                return outside[below(outside.length)];
            }
            return low + below(high - low + 1);
        }

        int arrivals() {
            return model.now.times.size();
        }

        int someTime() {
            if (below(12) == 0) {
                return around(0, 2999);
            }
            if (arrivals() > 0 && below(15) == 0) {
                return model.now.list().get(below(arrivals()));
            }
            int from = arrivals() > 0 ? model.now.times.first() : below(300);
            int slack = model.now.slack;
            long turns = below((int) (2999 / period) + 1);
            long time = Math.round(from + turns * period) + below(2 * slack + 1) - slack;
            return (int) (time > 2999 ? below(3000) : time);
        }

        int[] someBox() {
            int low = below(12) == 0 ? around(10, 999) : leastLow + below(150);
            int wide = below(8) == 0 ? 0 : below(3 * Math.max(1, Math.min(low, 999)));
            int high = below(12) == 0 ? around(10, 999) : low + wide;
            int slack = below(12) == 0 ? around(0, 99) : below(Math.max(1, (low + 3) / 4));
            period = Math.min(999, Math.max(10, low + (high - low) * random.nextDouble()));
            return new int[] {low, high, slack};
        }

        void change() {
            switch (below(8)) {
                case 0:
                    int[] b = someBox();
                    due("boxes(" + b[0] + ", " + b[1] + ", " + b[2] + ")",
                        x.boxes(b[0], b[1], b[2]), model.boxes(b[0], b[1], b[2]));
                    break;
                case 1:
                    int k = around(0, Math.max(1, arrivals()) - 1);
                    due("strikes(" + k + ")", x.strikes(k), model.strikes(k));
                    break;
                case 2:
                    due("undo()", x.undo(), model.undo());
                    break;
                default:
                    int time = someTime();
                    due("adds(" + time + ")", x.adds(time), model.adds(time));
                    break;
            }
        }

        void images() {
            int image = around(0, 1);
            if (below(2) == 0) {
                due("keep(" + image + ")", x.keep(image), model.keep(image));
            } else {
                due("back(" + image + ")", x.back(image), model.back(image));
            }
        }

        String blanks() {
            return "  ".substring(below(10) == 0 ? below(3) : 2);
        }

        /** Arrivals that one period bears out, or nearly so. */
        String soundText() {
            int[] b = someBox();
            int slack = Math.max(0, Math.min(99, b[2]));
            StringBuilder s = new StringBuilder("b" + b[0] + " " + b[1] + " " + b[2] + ";");
            int from = below(500);
            int turns = (int) ((2999 - from) / period);
            for (int i = 2 + below(6); i > 0; i--) {
                long jitter = below(10) == 0 ? slack + 1 : below(2 * slack + 1) - slack;
                s.append('t').append(Math.abs(Math.round(from + below(turns + 1) * period + jitter)));
                s.append(';');
            }
            return s.toString();
        }

        String someText() {
            if (below(3) > 0) {
                return soundText();
            }
            StringBuilder s = new StringBuilder();
            int items = below(9);
            for (int i = 0; i < items; i++) {
                if (below(6) == 0) {
                    int[] b = someBox();
                    s.append("b").append(blanks()).append(b[0]).append(' ').append(b[1]);
                    s.append(' ').append(blanks()).append(b[2]);
                } else {
                    s.append("t").append(blanks()).append(someTime());
                }
                s.append(blanks()).append(';').append(blanks());
            }
            if (below(4) == 0 && s.length() > 0) {
                String signs = "bt;0123456789 x" + (char) 200;
                char sign = signs.charAt(below(signs.length()));
                int at = below(s.length());
                if (below(2) == 0) {
                    s.setCharAt(at, sign);
                } else if (below(2) == 0) {
                    s.insert(at, sign);
                } else {
                    s.setLength(at);
                }
            }
            return s.toString();
        }

        void text() {
            String s = someText();
            for (int i = 0; i < s.length(); i++) {
                int letter = below(300) == 0 ? around(0, 255) : s.charAt(i);
                due("type(" + letter + ")", x.type(letter), model.type(letter));
            }
            int got = x.heard();
            int want = model.heard();
            due("heard()", got, want);
            if (want < 0 && below(5) > 0) {
                due("clear()", x.clear(), model.clear());
            }
        }

        void askFew() {
            int n = Math.max(1, arrivals());
            int what = around(0, 7);
            due("count(" + what + ")", x.count(what), model.count(what));
            int a = around(0, n - 1);
            due("time(" + a + ")", x.time(a), model.time(a));
            int k = around(0, below(3) == 0 ? Math.max(1, model.standing(model.now)) : 3);
            due("number(" + k + ", " + a + ")", x.number(k, a), model.number(k, a));
            int part = around(0, 3);
            due("box(" + k + ", " + part + ")", x.box(k, part), model.box(k, part));
            due("narrowed(" + part + ")", x.narrowed(part), model.narrowed(part));
            int of = around(0, 2);
            int gap = around(0, Math.max(0, n - 2));
            due("held(" + gap + ", " + of + ")", x.held(gap, of), model.held(gap, of));
        }

        void askPairs() {
            int n = Math.max(1, arrivals());
            int i = around(0, n - 1);
            int j = around(Math.max(0, Math.min(i, n - 2) + 1), n - 1);
            int k = around(Math.max(0, Math.min(j, n - 2) + 1), n - 1);
            int way = around(0, 1);
            int of = around(0, 2);
            due("counts(" + i + ", " + j + ", " + way + ", " + of + ")",
                x.counts(i, j, way, of), model.counts(i, j, way, of));
            int half = around(0, 1);
            due("bend(" + i + ", " + j + ", " + k + ", " + half + ")",
                x.bend(i, j, k, half), model.bend(i, j, k, half));
            int time = someTime();
            due("left(" + time + ")", x.left(time), model.left(time));
            int by = around(0, 10);
            due("odds(" + by + ", " + half + ")", x.odds(by, half), model.odds(by, half));
            if (below(3) == 0) {
                due("listen()", x.listen(), model.listen());
            }
        }

        void go() {
            while (calls < CALLS) {
                int kind = below(20);
                if (kind < 6) {
                    change();
                } else if (kind < 7) {
                    images();
                } else if (kind < 9) {
                    text();
                } else if (kind < 15) {
                    askFew();
                } else {
                    askPairs();
                }
            }
        }
    }

    public static void main(String[] args) {
        int calls = 0;
        for (int seed = 0; seed < RUNS; seed++) {
            Run run = new Run(seed);
            run.go();
            calls += run.calls;
        }
        System.out.println("ModelTest: " + calls + " answers as the model's");
    }
}
