import java.util.ArrayList;
import java.util.HashMap;
import java.util.HashSet;
import java.util.List;
import java.util.Map;
import java.util.Set;
import java.util.TreeMap;
import java.util.TreeSet;

/**
 * The document once more, in the slowest and plainest way and with none of the program's own ways:
 * rows are texts, CHANGES are all tried, THE LAW is cut up as a text each time it is asked.
 */
final class PlainHeaps {
    static final class Word {
        String row;
        int known;
        int tongues;
        boolean barred;
    }

    record Change(int kind, int place, String made, int goes, int comes) { }

    record Step(int cost, int kind, int place) { }

    record Row(int cost, List<Integer> words) { }

    static final class Refused extends Exception {
        private static final long serialVersionUID = 1L;
    }

    final List<Word> words = new ArrayList<>();
    final List<Integer> tape = new ArrayList<>();
    List<String> clauses = new ArrayList<>();
    int spoken = -1;
    int x = 1;

    // ---- the tape and the WORDS

    int feed(int a, int b, int c, int d, int e) {
        if (tape.size() + 20 > 200) {
            return -1;
        }
        for (int n : new int[] {a, b, c, d, e}) {
            for (int i = 3; i >= 0; i--) {
                tape.add((n >> (8 * i)) & 0xff);
            }
        }
        return tape.size();
    }

    private List<Integer> take(int n) {
        List<Integer> taken = new ArrayList<>(tape.subList(0, n));
        tape.clear();
        return taken;
    }

    private static boolean letter(int b) {
        return b >= 97 && b <= 122;
    }

    private static String text(List<Integer> bytes) {
        StringBuilder s = new StringBuilder();
        for (int b : bytes) {
            s.append((char) b);
        }
        return s.toString();
    }

    boolean is(int w) {
        return 0 <= w && w < words.size();
    }

    private boolean used(int w) {
        Word word = words.get(w);
        return !word.barred && (spoken < 0 || (word.tongues >> spoken & 1) == 1);
    }

    private List<Integer> allUsed() {
        List<Integer> all = new ArrayList<>();
        for (int w = 0; w < words.size(); w++) {
            if (used(w)) {
                all.add(w);
            }
        }
        return all;
    }

    private boolean isWord(String row) {
        for (Word word : words) {
            if (word.row.equals(row)) {
                return true;
            }
        }
        return false;
    }

    int word(int n, int known, int tongues) {
        if (n < 1 || n > 8 || known < 0 || known > 99 || tongues < 1 || tongues > 15 || words.size() == 40 || tape.size() < n) {
            return -1;
        }
        List<Integer> bytes = take(n);
        for (int b : bytes) {
            if (!letter(b)) {
                return -2;
            }
        }
        if (isWord(text(bytes))) {
            return -2;
        }
        Word word = new Word();
        word.row = text(bytes);
        word.known = known;
        word.tongues = tongues;
        words.add(word);
        return words.size() - 1;
    }

    boolean bar(int w, boolean barred) {
        if (!is(w) || words.get(w).barred == barred) {
            return false;
        }
        words.get(w).barred = barred;
        return true;
    }

    boolean know(int w, int n) {
        if (!is(w) || n < 0 || n > 99) {
            return false;
        }
        words.get(w).known = n;
        return true;
    }

    boolean speak(int tongue) {
        if (tongue < -1 || tongue > 3) {
            return false;
        }
        spoken = tongue;
        return true;
    }

    // ---- THE LAW

    int law(int n) {
        if (n < 1 || n > 160 || tape.size() < n) {
            return -1;
        }
        String s = text(take(n));
        int fault = PlainFaults.of(s);
        if (fault != 0) {
            return fault;
        }
        clauses = new ArrayList<>(List.of(s.split(";")));
        return clauses.size();
    }

    /** Where the last of some signs stands that is in no brackets; -1: nowhere. */
    private static int lastOutside(String s, String signs) {
        int open = 0;
        for (int i = s.length() - 1; i >= 0; i--) {
            char c = s.charAt(i);
            if (c == ')' || c == ']') {
                open++;
            } else if (c == '(' || c == '[') {
                open--;
            } else if (open == 0 && signs.indexOf(c) >= 0) {
                return i;
            }
        }
        return -1;
    }

    private static int firstOutside(String s, String signs) {
        int open = 0;
        for (int i = 0; i < s.length(); i++) {
            char c = s.charAt(i);
            if (c == '(' || c == '[') {
                open++;
            } else if (c == ')' || c == ']') {
                open--;
            } else if (open == 0 && signs.indexOf(c) >= 0) {
                return i;
            }
        }
        return -1;
    }

    private static int reckon(String e, Map<Character, Integer> named) throws Refused {
        int at = lastOutside(e, "+-");
        if (at < 0) {
            at = lastOutside(e, "*/%");
        }
        if (at < 0) {
            if (e.charAt(0) == '[') {
                return reckon(e.substring(1, e.length() - 1), named);
            }
            return Character.isDigit(e.charAt(0)) ? Integer.parseInt(e) : named.get(e.charAt(0));
        }
        int left = reckon(e.substring(0, at), named);
        int right = reckon(e.substring(at + 1), named);
        switch (e.charAt(at)) {
            case '+': return left + right;
            case '-': return left - right;
            case '*': return left * right;
            default:
                if (right == 0) {
                    throw new Refused();
                }
                return e.charAt(at) == '/' ? left / right : left % right;
        }
    }

    private static boolean condition(String c, Map<Character, Integer> named) throws Refused {
        int at = firstOutside(c, "|");
        if (at >= 0) {
            return condition(c.substring(0, at), named) || condition(c.substring(at + 1), named);
        }
        at = firstOutside(c, "&");
        if (at >= 0) {
            return condition(c.substring(0, at), named) && condition(c.substring(at + 1), named);
        }
        if (c.charAt(0) == '!') {
            return !condition(c.substring(1), named);
        }
        if (c.charAt(0) == '(') {
            return condition(c.substring(1, c.length() - 1), named);
        }
        at = firstOutside(c, "<>=");
        int left = reckon(c.substring(0, at), named);
        int right = reckon(c.substring(at + 1), named);
        return c.charAt(at) == '<' ? left < right : c.charAt(at) == '>' ? left > right : left == right;
    }

    private static boolean holds(String c, Map<Character, Integer> named) {
        try {
            return condition(c, named);
        } catch (Refused refused) {
            return false;
        }
    }

    /** 0: the CHANGE may not be. */
    private int cost(Map<Character, Integer> named) {
        int cost = 0;
        for (String clause : clauses) {
            int at = clause.indexOf('(');
            if (clause.charAt(0) == 'n' && holds(clause.substring(at + 1, clause.length() - 1), named)) {
                return 0;
            }
            if (clause.charAt(0) == 'c' && cost == 0 && holds(clause.substring(at + 1, clause.length() - 1), named)) {
                int e = 0;
                try {
                    e = reckon(clause.substring(1, at), named);
                } catch (Refused refused) {
                    e = 0;
                }
                cost = e < 1 ? 1 : e > 99 ? 99 : e;
            }
        }
        return cost == 0 ? 1 : cost;
    }

    // ---- CHANGES and STEPS

    static List<Change> changes(String row) {
        List<Change> all = new ArrayList<>();
        for (int i = 0; i < row.length(); i++) {
            for (char c = 'a'; c <= 'z'; c++) {
                if (c != row.charAt(i)) {
                    all.add(new Change(0, i, row.substring(0, i) + c + row.substring(i + 1), row.charAt(i) - 'a', c - 'a'));
                }
            }
        }
        for (int i = 0; i <= row.length() && row.length() < 8; i++) {
            for (char c = 'a'; c <= 'z'; c++) {
                all.add(new Change(1, i, row.substring(0, i) + c + row.substring(i), 26, c - 'a'));
            }
        }
        for (int i = 0; i < row.length() && row.length() > 1; i++) {
            all.add(new Change(2, i, row.substring(0, i) + row.substring(i + 1), row.charAt(i) - 'a', 26));
        }
        for (int i = 0; i + 1 < row.length(); i++) {
            char c = row.charAt(i);
            char d = row.charAt(i + 1);
            if (c != d) {
                all.add(new Change(3, i, row.substring(0, i) + d + c + row.substring(i + 2), c - 'a', d - 'a'));
            }
        }
        return all;
    }

    private Step stepOf(int a, int b) {
        Step best = null;
        if (a == b || !used(a) || !used(b)) {
            return null;
        }
        for (Change change : changes(words.get(a).row)) {
            if (!change.made().equals(words.get(b).row)) {
                continue;
            }
            int cost = cost(Map.of('k', change.kind(), 'i', change.place(), 'o', change.goes(), 'p', change.comes(),
                'l', words.get(a).row.length(), 'f', words.get(a).known, 'g', words.get(b).known, 'a', a, 'b', b));
            boolean better = best == null || cost < best.cost()
                || (cost == best.cost() && (change.kind() < best.kind() || (change.kind() == best.kind() && change.place() < best.place())));
            if (cost > 0 && better) {
                best = new Step(cost, change.kind(), change.place());
            }
        }
        return best;
    }

    /** All STEPS; asked anew for each call. */
    private Map<Integer, TreeMap<Integer, Step>> steps() {
        Map<Integer, TreeMap<Integer, Step>> all = new HashMap<>();
        for (int a = 0; a < words.size(); a++) {
            all.put(a, new TreeMap<>());
            for (int b = 0; b < words.size(); b++) {
                int longer = words.get(a).row.length() - words.get(b).row.length();
                Step step = Math.abs(longer) > 1 ? null : stepOf(a, b);
                if (step != null) {
                    all.get(a).put(b, step);
                }
            }
        }
        return all;
    }

    int step(int a, int b, int what) {
        if (!is(a) || !is(b) || what < 0 || what > 2) {
            return -1;
        }
        Step step = stepOf(a, b);
        if (step == null) {
            return -2;
        }
        return what == 0 ? step.cost() : what == 1 ? step.kind() : step.place();
    }

    // ---- ways

    private static int compare(Row a, Row b) {
        if (a.cost() != b.cost()) {
            return Integer.compare(a.cost(), b.cost());
        }
        if (a.words().size() != b.words().size()) {
            return Integer.compare(a.words().size(), b.words().size());
        }
        for (int i = 0; i < a.words().size(); i++) {
            if (!a.words().get(i).equals(b.words().get(i))) {
                return Integer.compare(a.words().get(i), b.words().get(i));
            }
        }
        return 0;
    }

    private Map<Integer, Row> leastFrom(int a, Map<Integer, TreeMap<Integer, Step>> steps) {
        Map<Integer, Row> best = new HashMap<>();
        if (!used(a)) {
            return best;
        }
        best.put(a, new Row(0, List.of(a)));
        boolean changed = true;
        while (changed) {
            changed = false;
            for (int w : new ArrayList<>(best.keySet())) {
                for (Map.Entry<Integer, Step> onward : steps.get(w).entrySet()) {
                    List<Integer> longer = new ArrayList<>(best.get(w).words());
                    longer.add(onward.getKey());
                    Row row = new Row(best.get(w).cost() + onward.getValue().cost(), longer);
                    if (!best.containsKey(onward.getKey()) || compare(row, best.get(onward.getKey())) < 0) {
                        best.put(onward.getKey(), row);
                        changed = true;
                    }
                }
            }
        }
        return best;
    }

    int least(int a, int b, int what) {
        if (!is(a) || !is(b) || what < -1 || what > 40) {
            return -1;
        }
        Row row = leastFrom(a, steps()).get(b);
        if (row == null) {
            return -2;
        }
        if (what == -1) {
            return row.cost();
        }
        if (what == 40) {
            return row.words().size() - 1;
        }
        return what < row.words().size() ? row.words().get(what) : -1;
    }

    private long rowsOf(int at, int b, int cost, Map<Integer, TreeMap<Integer, Step>> steps, Map<String, Long> told) {
        if (cost == 0) {
            return at == b ? 1 : 0;
        }
        String key = at + " " + cost;
        if (told.containsKey(key)) {
            return told.get(key);
        }
        long sum = 0;
        for (Map.Entry<Integer, Step> onward : steps.get(at).entrySet()) {
            if (onward.getValue().cost() <= cost) {
                sum += rowsOf(onward.getKey(), b, cost - onward.getValue().cost(), steps, told);
            }
        }
        told.put(key, sum);
        return sum;
    }

    long howMany(int a, int b) {
        if (!is(a) || !is(b)) {
            return -1;
        }
        Map<Integer, TreeMap<Integer, Step>> steps = steps();
        Row row = leastFrom(a, steps).get(b);
        return row == null ? 0 : rowsOf(a, b, row.cost(), steps, new HashMap<>());
    }

    private Set<Integer> reached(int a, int closed, Map<Integer, TreeMap<Integer, Step>> steps) {
        Set<Integer> seen = new TreeSet<>();
        List<Integer> open = new ArrayList<>();
        if (used(a)) {
            open.add(a);
            seen.add(a);
        }
        while (!open.isEmpty()) {
            for (int w : steps.get(open.remove(open.size() - 1)).keySet()) {
                if (w != closed && seen.add(w)) {
                    open.add(w);
                }
            }
        }
        return seen;
    }

    long without(int a, int b) {
        if (!is(a) || !is(b)) {
            return -1;
        }
        Map<Integer, TreeMap<Integer, Step>> steps = steps();
        if (!reached(a, -1, steps).contains(b)) {
            return -2;
        }
        long bits = 0;
        for (int w = 0; w < words.size(); w++) {
            if (w != a && w != b && !reached(a, w, steps).contains(b)) {
                bits |= 1L << w;
            }
        }
        return bits;
    }

    private Map<Integer, Integer> leaders() {
        Map<Integer, TreeMap<Integer, Step>> steps = steps();
        Map<Integer, Set<Integer>> all = new HashMap<>();
        for (int w : allUsed()) {
            all.put(w, reached(w, -1, steps));
        }
        Map<Integer, Integer> leaders = new TreeMap<>();
        for (int w : allUsed()) {
            for (int v : all.get(w)) {
                if (all.get(v).contains(w)) {
                    leaders.merge(w, v, Math::min);
                }
            }
        }
        return leaders;
    }

    int heap(int w) {
        if (!is(w)) {
            return -1;
        }
        return used(w) ? leaders().get(w) : -2;
    }

    int heaps() {
        return new HashSet<>(leaders().values()).size();
    }

    int far(int what) {
        if (what < 0 || what > 2) {
            return -1;
        }
        int[] best = {-1, -1, -1};
        Map<Integer, TreeMap<Integer, Step>> steps = steps();
        for (int a : allUsed()) {
            Map<Integer, Row> rows = leastFrom(a, steps);
            for (int b : new TreeSet<>(rows.keySet())) {
                if (a != b && rows.get(b).cost() > best[0]) {
                    best = new int[] {rows.get(b).cost(), a, b};
                }
            }
        }
        return best[0] < 0 ? -2 : best[what];
    }

    int between(int what) {
        if (what < 0 || what > 1) {
            return -1;
        }
        if (allUsed().isEmpty()) {
            return -2;
        }
        Map<Integer, TreeMap<Integer, Step>> steps = steps();
        Map<Integer, Map<Integer, Row>> all = new HashMap<>();
        for (int w : allUsed()) {
            all.put(w, leastFrom(w, steps));
        }
        int best = -1;
        int most = -1;
        for (int w : allUsed()) {
            int twos = 0;
            for (int a : allUsed()) {
                for (int b : allUsed()) {
                    boolean three = a != b && a != w && b != w;
                    if (three && all.get(a).containsKey(w) && all.get(w).containsKey(b)
                            && all.get(a).get(w).cost() + all.get(w).get(b).cost() == all.get(a).get(b).cost()) {
                        twos++;
                    }
                }
            }
            if (twos > most) {
                most = twos;
                best = w;
            }
        }
        return what == 0 ? best : most;
    }

    int newWord(int what) {
        if (!(what >= 0 && what <= 2) && !(what >= 10 && what <= 17)) {
            return -1;
        }
        if (allUsed().isEmpty()) {
            return -2;
        }
        Map<Integer, Integer> leaders = leaders();
        Map<String, Set<Integer>> joined = new HashMap<>();
        for (int w : allUsed()) {
            for (Change change : changes(words.get(w).row)) {
                joined.computeIfAbsent(change.made(), row -> new HashSet<>()).add(w);
            }
        }
        String best = null;
        int[] rank = null;
        for (Map.Entry<String, Set<Integer>> entry : joined.entrySet()) {
            if (isWord(entry.getKey())) {
                continue;
            }
            Set<Integer> heaps = new HashSet<>();
            for (int w : entry.getValue()) {
                heaps.add(leaders.get(w));
            }
            int[] now = {-heaps.size(), -entry.getValue().size(), entry.getKey().length()};
            int order = rank == null ? -1 : java.util.Arrays.compare(now, rank);
            if (order < 0 || (order == 0 && entry.getKey().compareTo(best) < 0)) {
                rank = now;
                best = entry.getKey();
            }
        }
        if (what < 3) {
            return Math.abs(rank[what]);
        }
        return what - 10 < best.length() ? best.charAt(what - 10) - 'a' : -1;
    }

    long walks(int a, int b, int n) {
        if (!is(a) || !is(b) || n < 0 || n > 10) {
            return -1;
        }
        if (!used(a) || !used(b)) {
            return 0;
        }
        return walksFrom(a, b, n, steps(), new HashMap<>());
    }

    private long walksFrom(int at, int b, int n, Map<Integer, TreeMap<Integer, Step>> steps, Map<String, Long> told) {
        if (n == 0) {
            return at == b ? 1 : 0;
        }
        String key = at + " " + n;
        if (!told.containsKey(key)) {
            long sum = 0;
            for (int w : steps.get(at).keySet()) {
                sum += walksFrom(w, b, n - 1, steps, told);
            }
            told.put(key, sum);
        }
        return told.get(key);
    }

    // ---- told WORDS

    /** Null: no such WORDS, or one twice. */
    private List<Integer> told(List<Integer> bytes) {
        Set<Integer> seen = new HashSet<>();
        for (int w : bytes) {
            if (!is(w) || !seen.add(w)) {
                return null;
            }
        }
        return bytes;
    }

    private boolean notUsed(List<Integer> list) {
        for (int w : list) {
            if (!used(w)) {
                return true;
            }
        }
        return false;
    }

    int row(int n, int what) {
        if (n < 2 || n > 10 || what < -1 || what >= n || tape.size() < n) {
            return -1;
        }
        List<Integer> list = told(take(n));
        if (list == null || notUsed(list)) {
            return -3;
        }
        Row[] best = {null};
        permute(new ArrayList<>(), 0, new TreeSet<>(list), steps(), best);
        if (best[0] == null) {
            return -2;
        }
        return what == -1 ? best[0].cost() : best[0].words().get(what);
    }

    private void permute(List<Integer> so, int cost, TreeSet<Integer> left, Map<Integer, TreeMap<Integer, Step>> steps, Row[] best) {
        if (left.isEmpty()) {
            Row row = new Row(cost, new ArrayList<>(so));
            if (best[0] == null || compare(row, best[0]) < 0) {
                best[0] = row;
            }
            return;
        }
        for (int w : new ArrayList<>(left)) {
            Step step = so.isEmpty() ? new Step(0, 0, 0) : steps.get(so.get(so.size() - 1)).get(w);
            if (step != null) {
                so.add(w);
                left.remove(w);
                permute(so, cost + step.cost(), left, steps, best);
                left.add(w);
                so.remove(so.size() - 1);
            }
        }
    }

    int game(int n, int what) {
        if (n < 2 || n > 12 || what < 0 || what > 1 || tape.size() < n) {
            return -1;
        }
        List<Integer> list = told(take(n));
        if (list == null || notUsed(list)) {
            return -3;
        }
        Set<Integer> left = new TreeSet<>(list);
        left.remove(list.get(0));
        int by = winning(list.get(0), left, steps(), new HashMap<>());
        return what == 1 ? by : by >= 0 ? 1 : 0;
    }

    private int winning(int at, Set<Integer> left, Map<Integer, TreeMap<Integer, Step>> steps, Map<String, Integer> told) {
        String key = at + " " + left;
        if (told.containsKey(key)) {
            return told.get(key);
        }
        int by = -2;
        for (int w : left) {
            Set<Integer> less = new TreeSet<>(left);
            less.remove(w);
            if (by < 0 && steps.get(at).containsKey(w) && winning(w, less, steps, told) < 0) {
                by = w;
            }
        }
        told.put(key, by);
        return by;
    }

    static int apart(String a, String b) {
        int[][] far = new int[a.length() + 1][b.length() + 1];
        for (int i = a.length(); i >= 0; i--) {
            for (int j = b.length(); j >= 0; j--) {
                if (i == a.length() || j == b.length()) {
                    far[i][j] = a.length() - i + b.length() - j;
                } else if (a.charAt(i) == b.charAt(j)) {
                    far[i][j] = far[i + 1][j + 1];
                } else {
                    far[i][j] = 1 + Math.min(far[i + 1][j + 1], Math.min(far[i + 1][j], far[i][j + 1]));
                }
            }
        }
        return far[0][0];
    }

    int farBy(int a, int b) {
        return is(a) && is(b) ? apart(words.get(a).row, words.get(b).row) : -1;
    }

    int near(int n, int what) {
        if (n < 1 || n > 12 || what < 0 || what > 2 || tape.size() < n) {
            return -1;
        }
        List<Integer> bytes = take(n);
        for (int b : bytes) {
            if (!letter(b)) {
                return -2;
            }
        }
        if (allUsed().isEmpty()) {
            return -2;
        }
        TreeMap<Integer, List<Integer>> by = new TreeMap<>();
        for (int w : allUsed()) {
            by.computeIfAbsent(apart(words.get(w).row, text(bytes)), far -> new ArrayList<>()).add(w);
        }
        List<Integer> nearest = by.firstEntry().getValue();
        return what == 0 ? by.firstKey() : what == 1 ? nearest.get(0) : nearest.size();
    }

    int clear(int n, int d, int what) {
        if (n < 1 || n > 14 || d < 1 || d > 9 || what < 0 || what > 1 || tape.size() < n) {
            return -1;
        }
        List<Integer> list = told(take(n));
        if (list == null) {
            return -3;
        }
        int best = 0;
        for (int set = 1; set < 1 << n; set++) {
            if (Integer.bitCount(set) > Integer.bitCount(best) && allApart(list, set, d)) {
                best = set;
            }
        }
        return what == 0 ? Integer.bitCount(best) : best;
    }

    private boolean allApart(List<Integer> list, int set, int d) {
        for (int i = 0; i < list.size(); i++) {
            for (int j = 0; j < i; j++) {
                if ((set >> i & 1) == 1 && (set >> j & 1) == 1 && farBy(list.get(i), list.get(j)) < d) {
                    return false;
                }
            }
        }
        return true;
    }

    long rubbed(int n) {
        if (n < 1 || n > 8 || tape.size() < n) {
            return -1;
        }
        String s = text(take(n));
        if (!s.matches("[a-z?]+")) {
            return -2;
        }
        long bits = 0;
        for (int w : allUsed()) {
            if (words.get(w).row.matches(s.replace('?', '.'))) {
                bits |= 1L << w;
            }
        }
        return bits;
    }

    int square(int n, int what) {
        if (n < 2 || n > 4 || what < -1 || what >= n) {
            return -1;
        }
        Set<String> rows = new HashSet<>();
        List<Integer> list = new ArrayList<>();
        for (int w : allUsed()) {
            if (words.get(w).row.length() == n) {
                list.add(w);
                rows.add(words.get(w).row);
            }
        }
        int found = 0;
        int[] first = null;
        long all = 1;
        for (int i = 0; i < n; i++) {
            all *= list.size();
        }
        for (long number = 0; number < all; number++) {
            int[] chosen = new int[n];
            long left = number;
            for (int i = n - 1; i >= 0; i--) {
                chosen[i] = list.get((int) (left % list.size()));
                left /= list.size();
            }
            if (columnsAreWords(chosen, rows)) {
                first = found == 0 ? chosen : first;
                found++;
            }
        }
        if (what == -1) {
            return found;
        }
        return first == null ? -2 : first[what];
    }

    private boolean columnsAreWords(int[] chosen, Set<String> rows) {
        for (int c = 0; c < chosen.length; c++) {
            StringBuilder column = new StringBuilder();
            for (int w : chosen) {
                column.append(words.get(w).row.charAt(c));
            }
            if (!rows.contains(column.toString())) {
                return false;
            }
        }
        return true;
    }

    // ---- the rest

    boolean seed(int n) {
        if (n < 0 || n > 65535) {
            return false;
        }
        x = n;
        return true;
    }

    int draw(int w, int n, int what) {
        if (!is(w) || n < 1 || n > 60 || what < 0 || what > 1) {
            return -1;
        }
        if (!used(w)) {
            return -2;
        }
        Map<Integer, TreeMap<Integer, Step>> steps = steps();
        Set<Integer> seen = new HashSet<>(Set.of(w));
        int at = w;
        for (int i = 0; i < n; i++) {
            x = (int) ((25173L * x + 13849) % 65536);
            List<Integer> onward = new ArrayList<>(steps.get(at).keySet());
            if (!onward.isEmpty()) {
                at = onward.get(x % onward.size());
            }
            seen.add(at);
        }
        return what == 0 ? at : seen.size();
    }

    int off() {
        return words.isEmpty() ? -1 : words.remove(words.size() - 1).row.length();
    }

    int check(int w, int n) {
        if (!is(w) || n < 0 || n > 8 || tape.size() < 4 * n) {
            return -2;
        }
        List<Integer> bytes = take(4 * n);
        String row = words.get(w).row;
        for (int i = 0; i < n; i++) {
            int number = bytes.get(4 * i) << 24 | bytes.get(4 * i + 1) << 16 | bytes.get(4 * i + 2) << 8 | bytes.get(4 * i + 3);
            if (i >= row.length() || number != row.charAt(i) - 'a') {
                return i;
            }
        }
        return n == row.length() ? -1 : n;
    }

    int count(int what) {
        int w = what % 40 < 20 ? what % 40 + 20 : what % 40 - 20;
        switch (what) {
            case 0: return words.size();
            case 1: return allUsed().size();
            case 2: return clauses.size();
            case 3: return tape.size();
            case 4: return x;
            case 5: return spoken;
            default:
                if (what < 20 || what >= 140 || !is(w)) {
                    return -1;
                }
                return what < 60 ? words.get(w).row.length() : what < 100 ? words.get(w).known : used(w) ? 1 : 0;
        }
    }
}
