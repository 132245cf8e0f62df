import java.util.ArrayList;
import java.util.Collections;
import java.util.HashMap;
import java.util.List;
import java.util.Map;
import java.util.Random;

/** Random runs of calls, each answer against a model that was written from the document alone. */
public final class ModelTest {
    private static final int NONE = -1, UNKNOWN = -101, OUTSIDE = -102, STATE = -103, FULL = -104;
    private static final int RUNS = 1500, CALLS = 300;

    // wills where changes are allowed and wished, which wills by chance seldom have
    private static final String[] LIVELY = {
        "p4305,p1269,s7901", "p0410,s5031,s2292", "p6577,p7025,s5500,s9580", "h1479,s9402,h1682,s6708",
        "p8369,l5697,p6168,s6761", "p2065,p0457,p4719,s5520", "p0900,s8000", "p8569,l8410,l8403,s5151",
        "p1318,s7062,s8435,s5287", "p0271,p4488,s8502"};
    private static final int[] ODD = {
        Integer.MIN_VALUE, Integer.MIN_VALUE + 10, -65536, -1, 4, 5, 7, 14, 24, 65536, Integer.MAX_VALUE};

    /** What is heard of one. */
    private record Heard(int heir, int a, int b, boolean more) {
    }

    /** All that can become another while a will lasts. */
    private static final class State {
        int[][] worths = new int[0][];
        int[] held = new int[0];
        int[] made = new int[0];
        int changes = 0;
        List<Heard> heard = new ArrayList<>();

        State copy() {
            State other = new State();
            other.worths = new int[worths.length][];
            for (int i = 0; i < worths.length; i++) {
                other.worths[i] = worths[i].clone();
            }
            other.held = held.clone();
            other.made = made.clone();
            other.changes = changes;
            other.heard = new ArrayList<>(heard);
            return other;
        }
    }

    private static final class Model {
        final StringBuilder page = new StringBuilder();
        String kinds = "";
        State now = new State();
        State kept = null;
        int readings = 0;

        int letter(int code) {
            if (code < 32 || code > 126) {
                return OUTSIDE;
            }
            if (page.length() == 25) {
                return FULL;
            }
            return page.append((char) code).length();
        }

        int blank() {
            int had = page.length();
            page.setLength(0);
            return had;
        }

        int fault() {
            // a beginning is good if some will begins so: fill it up with the end of one
            String example = "h0000,h0000,h0000,h0000";
            for (int n = 1; n <= page.length(); n++) {
                boolean good = n <= 23
                        && isWill(page.substring(0, n) + example.substring(n));
                if (!good) {
                    return n - 1;
                }
            }
            return page.length();
        }

        static boolean isWill(String text) {
            return text.matches("[hspla][0-9]{4}(,[hspla][0-9]{4}){1,3}");
        }

        int will() {
            if (!isWill(page.toString())) {
                return STATE;
            }
            String[] heirs = page.toString().split(",");
            kinds = "";
            now = new State();
            now.worths = new int[heirs.length][4];
            now.made = new int[heirs.length];
            for (int i = 0; i < heirs.length; i++) {
                kinds += heirs[i].charAt(0);
                for (int t = 0; t < 4; t++) {
                    now.worths[i][t] = Integer.parseInt(heirs[i].substring(t + 1, t + 2));
                }
            }
            now.held = dealt(kinds);
            kept = null;
            readings++;
            page.setLength(0);
            return heirs.length;
        }

        boolean heir(int i) {
            return 0 <= i && i < kinds.length();
        }

        static boolean thing(int t) {
            return 0 <= t && t <= 3;
        }

        int says(String as, int i, int t) {
            int worth = now.worths[i][t];
            return switch (as.charAt(i)) {
                case 'h' -> worth;
                case 's' -> 9 - worth;
                case 'p' -> 5;
                case 'l' -> i == 0 ? 9 : 9 - says(as, i - 1, t);
                default -> worth >= 5 ? 9 - worth : 0;
            };
        }

        int[] dealt(String as) {
            List<Integer> left = new ArrayList<>(List.of(0, 1, 2, 3));
            int[] held = new int[as.length()];
            for (int i = 0; i < held.length; i++) {
                int heir = i;
                Integer gets = Collections.min(left,
                        (s, t) -> 10 * (says(as, heir, s) - says(as, heir, t)) + s - t);
                left.remove(gets);
                held[i] = gets;
            }
            return held;
        }

        int about(int i, int what) {
            if (!heir(i)) {
                return UNKNOWN;
            }
            return switch (what) {
                case 0 -> "hspla".indexOf(kinds.charAt(i));
                case 1 -> now.held[i];
                case 2 -> now.worths[i][now.held[i]] >= 5 ? 1 : 0;
                case 3 -> now.made[i];
                case 10, 11, 12, 13 -> now.worths[i][what - 10];
                case 20, 21, 22, 23 -> says(kinds, i, what - 20);
                default -> OUTSIDE;
            };
        }

        int as(int i, int kind) {
            if (!heir(i)) {
                return UNKNOWN;
            }
            if (kind < 0 || kind > 4) {
                return OUTSIDE;
            }
            String such = new String[] {"hspla", "sa", "p", "l", "a"}[kind];
            return such.indexOf(kinds.charAt(i)) >= 0 ? i : NONE;
        }

        int has(int t) {
            if (!thing(t) || kinds.isEmpty()) {
                return UNKNOWN;
            }
            for (int i = 0; i < now.held.length; i++) {
                if (now.held[i] == t) {
                    return i;
                }
            }
            return NONE;
        }

        int worth(int i, int t, int v) {
            if (!heir(i) || !thing(t)) {
                return UNKNOWN;
            }
            if (v < 0 || v > 9) {
                return OUTSIDE;
            }
            int was = now.worths[i][t];
            now.worths[i][t] = v;
            return was;
        }

        int deal() {
            if (kinds.isEmpty()) {
                return STATE;
            }
            int[] held = dealt(kinds);
            int others = 0;
            for (int i = 0; i < held.length; i++) {
                others += held[i] == now.held[i] ? 0 : 1;
            }
            now.held = held;
            return others;
        }

        boolean allowed(int[] held, int a, int b) {
            return says(kinds, a, held[b]) < says(kinds, b, held[b])
                    && says(kinds, b, held[a]) < says(kinds, a, held[a]);
        }

        boolean wished(int[] held, int a, int b) {
            return now.worths[a][held[b]] > now.worths[a][held[a]]
                    && now.worths[b][held[a]] > now.worths[b][held[b]];
        }

        static int[] swapped(int[] held, int a, int b) {
            int[] other = held.clone();
            other[a] = held[b];
            other[b] = held[a];
            return other;
        }

        int may(int a, int b) {
            if (!heir(a) || !heir(b) || a == b) {
                return UNKNOWN;
            }
            return (allowed(now.held, a, b) ? 2 : 0) + (wished(now.held, a, b) ? 1 : 0);
        }

        int change(int a, int b) {
            if (!heir(a) || !heir(b) || a == b) {
                return UNKNOWN;
            }
            if (!allowed(now.held, a, b)) {
                return STATE;
            }
            now.held = swapped(now.held, a, b);
            now.made[a]++;
            now.made[b]++;
            return ++now.changes;
        }

        /** Goes all ways there are; to each end the fewest steps that led there. */
        void walk(int[] held, int steps, Map<List<Integer>, Integer> ends) {
            boolean end = true;
            for (int a = 0; a < held.length; a++) {
                for (int b = 0; b < a; b++) {
                    if (allowed(held, a, b) && wished(held, a, b)) {
                        end = false;
                        walk(swapped(held, a, b), steps + 1, ends);
                    }
                }
            }
            if (end) {
                List<Integer> way = new ArrayList<>();
                for (int t : held) {
                    way.add(t);
                }
                ends.merge(way, steps, Math::min);
            }
        }

        int ends(int what) {
            if (what < 0 || what > 3) {
                return OUTSIDE;
            }
            if (kinds.isEmpty()) {
                return STATE;
            }
            Map<List<Integer>, Integer> ends = new HashMap<>();
            walk(now.held, 0, ends);
            if (what == 0) {
                return ends.size();
            }
            if (what == 3) {
                return Collections.min(ends.values());
            }
            List<Integer> sums = new ArrayList<>();
            for (List<Integer> way : ends.keySet()) {
                int sum = 0;
                for (int i = 0; i < way.size(); i++) {
                    sum += now.worths[i][way.get(i)];
                }
                sums.add(sum);
            }
            return what == 1 ? Collections.max(sums) : Collections.min(sums);
        }

        int served(int i, int what) {
            if (!heir(i)) {
                return UNKNOWN;
            }
            if (what != 0 && what != 1) {
                return OUTSIDE;
            }
            int best = -1;
            int most = -1;
            for (int kind = 4; kind >= 0; kind--) {
                String as = kinds.substring(0, i) + "hspla".charAt(kind) + kinds.substring(i + 1);
                int gets = now.worths[i][dealt(as)[i]];
                if (gets >= most) {
                    most = gets;
                    best = kind;
                }
            }
            return what == 0 ? best : most;
        }

        private int[] worstHeld;
        private int worstSum;

        void tryWorst(int[] held, int i, int sum) {
            if (i == held.length) {
                if (sum < worstSum) {
                    worstSum = sum;
                    worstHeld = held.clone();
                }
                return;
            }
            for (int t = 0; t < 4; t++) {
                boolean gone = false;
                for (int k = 0; k < i; k++) {
                    gone |= held[k] == t;
                }
                if (!gone) {
                    held[i] = t;
                    tryWorst(held, i + 1, sum + now.worths[i][t]);
                }
            }
        }

        int worst(int what) {
            if (what != 0 && (what < 10 || what > 13)) {
                return OUTSIDE;
            }
            if (kinds.isEmpty()) {
                return STATE;
            }
            worstSum = 1000;
            tryWorst(new int[kinds.length()], 0, 0);
            if (what == 0) {
                return worstSum;
            }
            return what - 10 < kinds.length() ? worstHeld[what - 10] : NONE;
        }

        int hear(int i, int a, int b, boolean more) {
            if (!heir(i) || !thing(a) || !thing(b) || a == b) {
                return UNKNOWN;
            }
            if (now.heard.size() == 6) {
                return FULL;
            }
            now.heard.add(new Heard(i, a, b, more));
            return now.heard.size();
        }

        int forget() {
            int had = now.heard.size();
            now.heard.clear();
            return had;
        }

        List<Integer> truthsOf(int i, int t) {
            List<Integer> good = new ArrayList<>();
            for (int v = 0; v <= 9; v++) {
                int[] worths = now.worths[i].clone();
                worths[t] = v;
                boolean so = true;
                for (Heard heard : now.heard) {
                    so &= heard.heir != i || worths[heard.a] > worths[heard.b] == heard.more;
                }
                if (so) {
                    good.add(v);
                }
            }
            return good;
        }

        int truths(int i, int t) {
            if (!heir(i) || !thing(t)) {
                return UNKNOWN;
            }
            int bits = 0;
            for (int v : truthsOf(i, t)) {
                bits += 1 << v;
            }
            return bits;
        }

        int ask(int i, int t) {
            if (!heir(i) || !thing(t)) {
                return UNKNOWN;
            }
            List<Integer> good = truthsOf(i, t);
            int best = NONE;
            int fewest = 100;
            for (int other = 0; other < 4 && !good.isEmpty(); other++) {
                int yes = 0;
                int no = 0;
                for (int v : good) {
                    if (v > now.worths[i][other]) {
                        yes++;
                    } else {
                        no++;
                    }
                }
                if (other != t && Math.max(yes, no) < fewest) {
                    fewest = Math.max(yes, no);
                    best = other;
                }
            }
            return best;
        }

        int years(int times, int seed, int what) {
            if (times < 1 || times > 60 || seed < 0 || what < 0 || what > 2) {
                return OUTSIDE;
            }
            if (kinds.isEmpty()) {
                return STATE;
            }
            long s = seed;
            int[] held = now.held;
            int done = 0;
            for (int n = 0; n < times; n++) {
                s = (1103515245L * s + 12345) % 2147483648L;
                int a = (int) (s / 65536 % kinds.length());
                s = (1103515245L * s + 12345) % 2147483648L;
                int b = (int) (s / 65536 % kinds.length());
                if (a != b && allowed(held, a, b) && wished(held, a, b)) {
                    held = swapped(held, a, b);
                    done++;
                }
            }
            return what == 0 ? done : what == 1 ? content(held) : (int) s;
        }

        int content(int[] held) {
            int content = 0;
            for (int i = 0; i < held.length; i++) {
                content += now.worths[i][held[i]] >= 5 ? 1 : 0;
            }
            return content;
        }

        int image() {
            if (kinds.isEmpty()) {
                return STATE;
            }
            kept = now.copy();
            return now.changes;
        }

        int restore() {
            if (kept == null) {
                return STATE;
            }
            now = kept.copy();
            return now.changes;
        }

        int count(int what) {
            int sum = 0;
            for (int i = 0; i < now.held.length; i++) {
                sum += now.worths[i][now.held[i]];
            }
            return switch (what) {
                case 0 -> kinds.length();
                case 1 -> content(now.held);
                case 2 -> now.changes;
                case 3 -> sum;
                case 4 -> now.heard.size();
                case 5 -> page.length();
                case 6 -> readings;
                default -> OUTSIDE;
            };
        }

        long digest() {
            List<Integer> numbers = new ArrayList<>();
            if (!kinds.isEmpty()) {
                for (int t = 0; t < 4; t++) {
                    numbers.add(has(t));
                }
                for (int what = 0; what < 4; what++) {
                    numbers.add(ends(what));
                }
                for (int what : new int[] {0, 10, 11, 12, 13}) {
                    numbers.add(worst(what));
                }
            }
            for (int i = 0; i < kinds.length(); i++) {
                for (int what : new int[] {0, 1, 2, 3, 10, 11, 12, 13, 20, 21, 22, 23}) {
                    numbers.add(about(i, what));
                }
                numbers.add(served(i, 0));
                numbers.add(served(i, 1));
                for (int t = 0; t < 4; t++) {
                    numbers.add(truths(i, t));
                    numbers.add(ask(i, t));
                }
            }
            page.chars().forEach(numbers::add);
            for (int what = 0; what < 7; what++) {
                numbers.add(count(what));
            }
            long h = 907;
            for (int number : numbers) {
                h = h * 31 + number;
            }
            return h;
        }
    }

    private final Random random;
    private final HeirsInsulted real = new HeirsInsulted();
    private final Model model = new Model();
    private final StringBuilder calls = new StringBuilder();
    private boolean right = true;

    private ModelTest(long seed) {
        random = new Random(seed);
    }

    public static void main(String[] args) {
        int wrong = 0;
        for (int run = 0; run < RUNS && wrong < 5; run++) {
            wrong += new ModelTest(run).isRight() ? 0 : 1;
        }
        System.out.println(wrong == 0 ? "all runs are as the model tells" : wrong + " runs are not");
        if (wrong != 0) {
            System.exit(1);
        }
    }

    private boolean isRight() {
        for (int n = 0; n < CALLS && right; n++) {
            int which = random.nextInt(100);
            if (which < 4) {
                writeWill();
            } else if (which < 10) {
                callPage(random.nextInt(5));
            } else if (which < 60) {
                callHeirs(random.nextInt(8));
            } else {
                callRest(random.nextInt(14));
            }
        }
        same("digest()", real.digest(), model.digest());
        return right;
    }

    private void same(String call, long got, long want) {
        calls.append(call).append(" = ").append(want).append('\n');
        if (got != want && right) {
            right = false;
            System.out.println(calls + "  but the program answered " + got);
        }
    }

    /** A number of so many, but now and then one that is none of them. */
    private int some(int of) {
        return random.nextInt(25) == 0 ? ODD[random.nextInt(ODD.length)] : random.nextInt(of);
    }

    private int heir() {
        return some(model.kinds.isEmpty() ? 4 : model.kinds.length());
    }

    private void letter(int code) {
        same("letter(" + code + ")", real.letter(code), model.letter(code));
    }

    private void writeWill() {
        same("blank()", real.blank(), model.blank());
        StringBuilder text = new StringBuilder(LIVELY[random.nextInt(LIVELY.length)]);
        if (random.nextInt(3) == 0) {
            text.setLength(0);
            int heirs = 1 + random.nextInt(4);
            for (int i = 0; i < heirs; i++) {
                text.append(i == 0 ? "" : ",").append("hsplaps".charAt(random.nextInt(7)));
                text.append(10000 + random.nextInt(10000)).deleteCharAt(text.length() - 5);
            }
        }
        if (random.nextInt(6) == 0) {
            text.setCharAt(random.nextInt(text.length()), (char) (32 + random.nextInt(95)));
        }
        for (int i = 0; i < text.length(); i++) {
            letter(text.charAt(i));
        }
        same("fault()", real.fault(), model.fault());
        same("will()", real.will(), model.will());
    }

    private void callPage(int which) {
        switch (which) {
            case 0 -> letter(random.nextInt(140));
            case 1 -> letter("hspla0123456789,".charAt(random.nextInt(16)));
            case 2 -> same("blank()", real.blank(), model.blank());
            case 3 -> same("fault()", real.fault(), model.fault());
            default -> same("will()", real.will(), model.will());
        }
    }

    private void callHeirs(int which) {
        int a = heir();
        int b = heir();
        int t = some(4);
        int v = some(10);
        int what = some(4) + 10 * random.nextInt(3);
        switch (which) {
            case 0 -> same("about(" + a + ", " + what + ")", real.about(a, what), model.about(a, what));
            case 1 -> same("as(" + a + ", " + v / 2 + ")", real.as(a, v / 2), model.as(a, v / 2));
            case 2 -> same("has(" + t + ")", real.has(t), model.has(t));
            case 3 -> same("worth(" + a + ", " + t + ", " + v + ")", real.worth(a, t, v), model.worth(a, t, v));
            case 4 -> same("deal()", real.deal(), model.deal());
            case 5 -> same("may(" + a + ", " + b + ")", real.may(a, b), model.may(a, b));
            default -> same("change(" + a + ", " + b + ")", real.change(a, b), model.change(a, b));
        }
    }

    private void callRest(int which) {
        int i = heir();
        int a = some(4);
        int b = some(4);
        int what = some(which == 1 ? 2 : which == 11 ? 7 : which == 8 ? 3 : 4);
        int times = 1 + random.nextInt(62);
        int seed = random.nextInt() >>> (random.nextInt(20) == 0 ? 0 : 1);
        boolean more = random.nextBoolean();
        int worst = random.nextInt(4) == 0 ? what : 10 + what;
        switch (which) {
            case 0 -> same("ends(" + what + ")", real.ends(what), model.ends(what));
            case 1 -> same("served(" + i + ", " + what + ")", real.served(i, what), model.served(i, what));
            case 2 -> same("worst(" + worst + ")", real.worst(worst), model.worst(worst));
            case 3, 4 -> same("hear(" + i + ", " + a + ", " + b + ", " + more + ")",
                    real.hear(i, a, b, more), model.hear(i, a, b, more));
            case 5 -> same("forget()", real.forget(), model.forget());
            case 6 -> same("truths(" + i + ", " + a + ")", real.truths(i, a), model.truths(i, a));
            case 7 -> same("ask(" + i + ", " + a + ")", real.ask(i, a), model.ask(i, a));
            case 8 -> same("years(" + times + ", " + seed + ", " + what + ")",
                    real.years(times, seed, what), model.years(times, seed, what));
            case 9 -> same("image()", real.image(), model.image());
            case 10 -> same("restore()", real.restore(), model.restore());
            case 11 -> same("count(" + what + ")", real.count(what), model.count(what));
            default -> same("digest()", real.digest(), model.digest());
        }
    }
}
