import java.util.ArrayList;
import java.util.Arrays;
import java.util.List;
import java.util.TreeMap;
import java.util.TreeSet;
import java.util.regex.Matcher;
import java.util.regex.Pattern;

/**
 * The document, word by word, as slow and plain as it gets: whole sets of numbers, all ways tried.
 * ModelTest asks it and BurntLedger the same things. It shares no code with the class.
 */
final class PlainLedger {
    private static final int BAD = -1, FULL = -2, FINDING = -3, STATE = -4, SPENT = -6, NONE = -9;
    private static final int NOTHING = 1, BEYOND = 2, UNLIKE = 3, NOUGHT = 4, SIZE = 5;

    private static final String ITEM = "[a-l](\\[\\d\\d?,\\d\\d?\\]|=[0-9?x][0-9?x]?|\\*[a-l][a-l]|#|>[a-l]|~\\d\\d?,\\d\\d?)";
    private static final Pattern WHOLE = Pattern.compile(" *(" + ITEM + " *)*");
    private static final Pattern SPAN = Pattern.compile("[a-l][\\[~](\\d\\d?),(\\d\\d?)");
    private static final Pattern NAMES = Pattern.compile("([a-l])[*>]([a-l])([a-l]?)");

    /** A CELL of THE BOOK: its item as it stands in the TEXT. */
    private final String[] items = new String[12];
    private final int[][] rows = new int[6][];
    private final byte[][] texts = new byte[4][];
    private final List<int[]> sums = new ArrayList<>();
    private int[] heap = new int[0];
    private int asked = 0;
    private long upper = 0;
    private long lower = 1;
    private int finding = 0;
    private final int[] findings = new int[6];

    private int steps;

    private int find(int f) {
        finding = f;
        findings[f]++;
        return FINDING;
    }

    private static boolean in(int v, int from, int to) {
        return from <= v && v <= to;
    }

    int row(int r, int n) {
        if (!in(r, 0, 5) || n > 40) return BAD;
        if (n < 0) return find(SIZE);
        rows[r] = new int[n];
        return n;
    }

    int lay(int r, int i, int v) {
        if (!in(r, 0, 5)) return BAD;
        if (rows[r] == null) return find(NOTHING);
        if (!in(i, 0, rows[r].length - 1)) return find(BEYOND);
        asked = rows[r][i];
        rows[r][i] = v;
        return 1;
    }

    int at(int r, int i) {
        if (!in(r, 0, 5)) return BAD;
        if (rows[r] == null) return find(NOTHING);
        if (!in(i, 0, rows[r].length - 1)) return find(BEYOND);
        asked = rows[r][i];
        return 1;
    }

    int tear(int r) {
        if (!in(r, 0, 5)) return BAD;
        if (rows[r] == null) return find(NOTHING);
        rows[r] = null;
        return 1;
    }

    int copy(int r, int i, int to, int j, int n) {
        if (!in(r, 0, 5) || !in(to, 0, 5)) return BAD;
        if (n < 0) return find(SIZE);
        if (rows[r] == null || rows[to] == null) return find(NOTHING);
        if (i < 0 || j < 0 || (long) i + n > rows[r].length || (long) j + n > rows[to].length) return find(BEYOND);
        int[] taken = Arrays.copyOfRange(rows[r], i, i + n);
        for (int k = 0; k < n; k++) rows[to][j + k] = taken[k];
        return 1;
    }

    int mean(int r) {
        if (!in(r, 0, 5)) return BAD;
        if (rows[r] == null) return find(NOTHING);
        if (rows[r].length == 0) return find(NOUGHT);
        asked = (int) (Arrays.stream(rows[r]).asLongStream().sum() / rows[r].length);
        return 1;
    }

    int text(int t, int n) {
        if (!in(t, 0, 3) || n > 60) return BAD;
        if (n < 0) return find(SIZE);
        texts[t] = new byte[n];
        Arrays.fill(texts[t], (byte) 32);
        return n;
    }

    int put(int t, int i, int v) {
        if (!in(t, 0, 3)) return BAD;
        if (texts[t] == null) return find(NOTHING);
        if (!in(i, 0, texts[t].length - 1)) return find(BEYOND);
        int before = texts[t][i];
        texts[t][i] = (byte) v;
        return before + 1000;
    }

    private static String asString(byte[] text) {
        StringBuilder s = new StringBuilder();
        for (byte b : text) s.append((char) (b & 255));
        return s.toString();
    }

    /** The first place behind which no TEXT could go on, or behind which a number or a letter is wrong. */
    private static int faultOf(String text) {
        int place = Integer.MAX_VALUE;
        for (int k = 1; k <= text.length() && place == Integer.MAX_VALUE; k++) {
            Matcher m = WHOLE.matcher(text.substring(0, k));
            if (!m.matches() && !m.hitEnd()) place = k - 1;
        }
        if (place == Integer.MAX_VALUE && !WHOLE.matcher(text).matches()) place = text.length();
        Matcher spans = SPAN.matcher(text);
        while (spans.find()) {
            if (Integer.parseInt(spans.group(1)) > Integer.parseInt(spans.group(2))) place = Math.min(place, spans.end());
        }
        Matcher names = NAMES.matcher(text);
        for (int from = 0; names.find(from); from = names.start() + 1) {
            if (names.group(2).equals(names.group(1))) place = Math.min(place, names.end(2));
            boolean times = text.charAt(names.start() + 1) == '*';
            if (times && names.group(3).equals(names.group(1))) place = Math.min(place, names.end(3));
        }
        return place == Integer.MAX_VALUE ? NONE : place;
    }

    int fault(int t) {
        if (!in(t, 0, 3)) return BAD;
        if (texts[t] == null) return find(NOTHING);
        return faultOf(asString(texts[t]));
    }

    int book(int t) {
        if (!in(t, 0, 3)) return BAD;
        if (texts[t] == null) return find(NOTHING);
        String text = asString(texts[t]);
        if (faultOf(text) != NONE) return STATE;
        Arrays.fill(items, null);
        Matcher m = Pattern.compile(ITEM).matcher(text);
        while (m.find()) items[m.group().charAt(0) - 'a'] = m.group();
        return there(0);
    }

    int sum(int plus, int less, int total) {
        if (!in(plus, 0, 4095) || !in(less, 0, 4095) || plus + less == 0 || (plus & less) != 0) return BAD;
        if (!in(total, -999, 9999)) return BAD;
        if (sums.size() == 8) return FULL;
        sums.add(new int[] {plus, less, total});
        return sums.size();
    }

    int total(int s, int v) {
        if (!in(s, 0, sums.size() - 1) || !in(v, -999, 9999)) return BAD;
        int before = sums.get(s)[2];
        sums.get(s)[2] = v;
        return before;
    }

    int clear() {
        int n = sums.size();
        sums.clear();
        return n;
    }

    int heap(int r) {
        if (!in(r, 0, 5)) return BAD;
        if (rows[r] == null) return find(NOTHING);
        if (rows[r].length > 12) return find(SIZE);
        for (int v : rows[r]) if (!in(v, 0, 99)) return find(UNLIKE);
        heap = rows[r].clone();
        return heap.length;
    }

    int read(int c, int v) {
        if (!in(c, 0, 11) || !in(v, 0, 99)) return BAD;
        if (items[c] == null) return find(NOTHING);
        int before = kindOf(c);
        items[c] = (char) ('a' + c) + "[" + v + "," + v + "]";
        return before;
    }

    private int kindOf(int c) {
        return "[=*#>~".indexOf(items[c].charAt(1));
    }

    private int from(int c) {
        return Integer.parseInt(items[c].substring(2, items[c].indexOf(',')));
    }

    private int to(int c) {
        return Integer.parseInt(items[c].substring(items[c].indexOf(',') + 1).replace("]", ""));
    }

    private int named(int c, int which) {
        return items[c].charAt(2 + which) - 'a';
    }

    int kind(int c) {
        if (!in(c, 0, 11)) return BAD;
        if (items[c] == null) return find(NOTHING);
        return kindOf(c);
    }

    private int tells(int c) {
        switch (kindOf(c)) {
            case 1: return atFirst(c).size();
            case 2: return 12 * named(c, 0) + named(c, 1);
            case 3: return (int) Arrays.stream(heap).distinct().count();
            case 4: return named(c, 0);
            default: return 100 * from(c) + to(c);
        }
    }

    int mark(int c, int kind) {
        if (!in(c, 0, 11) || !in(kind, 1, 5)) return BAD;
        if (items[c] == null) return find(NOTHING);
        if (kindOf(c) != kind) return find(UNLIKE);
        return tells(c);
    }

    private boolean ofKind(int c, int v) {
        switch (kindOf(c)) {
            case 0: return in(v, from(c), to(c));
            case 1: {
                String signs = items[c].substring(2);
                String figures = signs.length() == 1 ? Integer.toString(v) : "" + v / 10 + v % 10;
                return figures.matches(signs.replace("?", "[0-9]").replace("x", "[38]"));
            }
            case 2: return items[named(c, 0)] != null && items[named(c, 1)] != null;
            case 3: return Arrays.stream(heap).anyMatch(h -> h == v);
            case 4: return items[named(c, 0)] != null;
            default: return v == 0 || in(v, from(c), to(c));
        }
    }

    private TreeSet<Integer> atFirst(int c) {
        TreeSet<Integer> set = new TreeSet<>();
        for (int v = 0; v <= 99; v++) if (ofKind(c, v)) set.add(v);
        return set;
    }

    /** Index c is null: the CELL is missing. */
    private List<TreeSet<Integer>> narrowed(int without) {
        List<TreeSet<Integer>> left = new ArrayList<>();
        for (int c = 0; c < 12; c++) left.add(items[c] == null ? null : atFirst(c));
        boolean went = true;
        while (went && !oneIsEmpty(left)) {
            went = false;
            for (int c = 0; c < 12; c++) {
                if (items[c] == null) continue;
                for (int v : new ArrayList<>(left.get(c))) {
                    if (!oneIsEmpty(left) && goes(left, c, v, without)) {
                        left.get(c).remove(v);
                        went = true;
                    }
                }
            }
        }
        if (oneIsEmpty(left)) for (TreeSet<Integer> set : left) if (set != null) set.clear();
        return left;
    }

    private static boolean oneIsEmpty(List<TreeSet<Integer>> left) {
        for (TreeSet<Integer> set : left) if (set != null && set.isEmpty()) return true;
        return false;
    }

    private boolean goes(List<TreeSet<Integer>> left, int c, int v, int without) {
        for (int s = 0; s < sums.size(); s++) {
            if ((without >> s & 1) == 0 && goesBySum(left, sums.get(s), c, v)) return true;
        }
        for (int d = 0; d < 12; d++) {
            if (items[d] == null) continue;
            if (kindOf(d) == 2 && goesByProduct(left, d, named(d, 0), named(d, 1), c, v)) return true;
            if (kindOf(d) == 4 && d == c && v <= left.get(named(d, 0)).first()) return true;
            if (kindOf(d) == 4 && named(d, 0) == c && v >= left.get(d).last()) return true;
        }
        return false;
    }

    private boolean goesBySum(List<TreeSet<Integer>> left, int[] sum, int c, int v) {
        if (((sum[0] | sum[1]) >> c & 1) == 0) return false;
        int low = 0;
        int high = 0;
        for (int d = 0; d < 12; d++) {
            if (items[d] == null) continue;
            int least = d == c ? v : left.get(d).first();
            int greatest = d == c ? v : left.get(d).last();
            if ((sum[0] >> d & 1) == 1) {
                low += least;
                high += greatest;
            }
            if ((sum[1] >> d & 1) == 1) {
                low -= greatest;
                high -= least;
            }
        }
        return !in(sum[2], low, high);
    }

    private static boolean goesByProduct(List<TreeSet<Integer>> left, int d, int one, int two, int c, int v) {
        TreeSet<Integer> a = left.get(one);
        TreeSet<Integer> b = left.get(two);
        TreeSet<Integer> product = left.get(d);
        if (d == c && !in(v, a.first() * b.first(), a.last() * b.last())) return true;
        if (one == c && (v * b.first() > product.last() || v * b.last() < product.first())) return true;
        return two == c && (v * a.first() > product.last() || v * a.last() < product.first());
    }

    int left(int c, int when) {
        if (!in(c, 0, 11) || !in(when, 0, 1)) return BAD;
        if (items[c] == null) return find(NOTHING);
        return when == 0 ? atFirst(c).size() : narrowed(0).get(c).size();
    }

    int ends(int c) {
        if (!in(c, 0, 11)) return BAD;
        if (items[c] == null) return find(NOTHING);
        TreeSet<Integer> set = narrowed(0).get(c);
        if (set.isEmpty()) return NONE;
        asked = set.last();
        return set.first();
    }

    int may(int c, int v) {
        if (!in(c, 0, 11) || !in(v, 0, 99)) return BAD;
        if (items[c] == null) return find(NOTHING);
        return narrowed(0).get(c).contains(v) ? 1 : 0;
    }

    int burnt() {
        for (int s = 0; s < sums.size(); s++) {
            int low = 0;
            int high = 0;
            for (int c = 0; c < 12; c++) {
                int sign = (sums.get(s)[0] >> c & 1) - (sums.get(s)[1] >> c & 1);
                if (sign == 0 || items[c] == null) continue;
                TreeSet<Integer> set = atFirst(c);
                if (set.isEmpty()) return s;
                low += sign > 0 ? set.first() : -set.last();
                high += sign > 0 ? set.last() : -set.first();
            }
            if (!in(sums.get(s)[2], low, high)) return s;
        }
        return NONE;
    }

    /** The first FILLINGS, no more than so many; null: SPENT ahead of that. */
    private List<int[]> fillings(int most, int turns, int without) {
        List<int[]> found = new ArrayList<>();
        int[] told = new int[12];
        Arrays.fill(told, -1);
        steps = 0;
        for (int s = 0; s < sums.size(); s++) {
            int all = sums.get(s)[0] | sums.get(s)[1];
            boolean bare = true;
            for (int c = 0; c < 12; c++) if ((all >> c & 1) == 1 && items[c] != null) bare = false;
            if (bare && (without >> s & 1) == 0 && sums.get(s)[2] != 0) return found;
        }
        return through(0, told, narrowed(without), most, turns, without, found) ? found : null;
    }

    private boolean through(int c, int[] told, List<TreeSet<Integer>> left, int most, int turns, int without, List<int[]> found) {
        if (found.size() >= most) return true;
        if (c == 12) {
            found.add(told.clone());
            return true;
        }
        if (items[c] == null) return through(c + 1, told, left, most, turns, without, found);
        for (int v : left.get(c)) {
            if (found.size() >= most) break;
            if (++steps > turns) return false;
            told[c] = v;
            if (!broken(told, without) && !through(c + 1, told, left, most, turns, without, found)) return false;
            told[c] = -1;
        }
        return true;
    }

    private boolean broken(int[] told, int without) {
        for (int c = 0; c < 12; c++) {
            if (items[c] == null || told[c] < 0) continue;
            int kind = kindOf(c);
            if (kind == 2 && told[named(c, 0)] >= 0 && told[named(c, 1)] >= 0
                    && told[c] != told[named(c, 0)] * told[named(c, 1)]) return true;
            if (kind == 4 && told[named(c, 0)] >= 0 && told[c] <= told[named(c, 0)]) return true;
            if (kind == 3 && sameOnes(told, 11, told[c]) > inHeap(told[c])) return true;
        }
        for (int s = 0; s < sums.size(); s++) {
            if ((without >> s & 1) == 1) continue;
            int value = 0;
            boolean all = true;
            for (int c = 0; c < 12; c++) {
                int sign = (sums.get(s)[0] >> c & 1) - (sums.get(s)[1] >> c & 1);
                if (sign == 0 || items[c] == null) continue;
                if (told[c] < 0) all = false;
                value += sign * told[c];
            }
            if (all && value != sums.get(s)[2]) return true;
        }
        return false;
    }

    private int sameOnes(int[] told, int last, int v) {
        int n = 0;
        for (int c = 0; c <= last; c++) if (items[c] != null && kindOf(c) == 3 && told[c] == v) n++;
        return n;
    }

    private int inHeap(int v) {
        return (int) Arrays.stream(heap).filter(h -> h == v).count();
    }

    private List<int[]> allFillings(int turns) {
        return fillings(Integer.MAX_VALUE, turns, 0);
    }

    int count(int turns) {
        if (!in(turns, 1, 20000)) return BAD;
        List<int[]> all = allFillings(turns);
        if (all == null) return SPENT;
        asked = steps;
        return all.size();
    }

    int fill(int i, int r, int turns) {
        if (i < 0 || !in(r, 0, 5) || !in(turns, 1, 20000)) return BAD;
        List<int[]> some = fillings(i == Integer.MAX_VALUE ? i : i + 1, turns, 0);
        if (some == null) return SPENT;
        if (some.size() <= i) return NONE;
        rows[r] = some.get(i).clone();
        return 1;
    }

    int could(int c, int v, int turns) {
        if (!in(c, 0, 11) || !in(v, 0, 99) || !in(turns, 1, 20000)) return BAD;
        if (items[c] == null) return find(NOTHING);
        List<int[]> all = allFillings(turns);
        if (all == null) return SPENT;
        int with = (int) all.stream().filter(f -> f[c] == v).count();
        upper = with;
        lower = all.isEmpty() || with == 0 ? 1 : all.size();
        for (int d = all.size(); d > 1; d--) {
            if (upper % d == 0 && lower % d == 0) {
                upper /= d;
                lower /= d;
            }
        }
        return with;
    }

    int must(int c, int turns) {
        if (!in(c, 0, 11) || !in(turns, 1, 20000)) return BAD;
        if (items[c] == null) return find(NOTHING);
        List<int[]> all = allFillings(turns);
        if (all == null) return SPENT;
        if (all.isEmpty()) return NONE;
        asked = all.stream().mapToInt(f -> f[c]).max().getAsInt();
        return all.stream().mapToInt(f -> f[c]).min().getAsInt();
    }

    int sure(int turns) {
        if (!in(turns, 1, 20000)) return BAD;
        List<int[]> all = allFillings(turns);
        if (all == null) return SPENT;
        int bits = 0;
        for (int k = 0; k < 12; k++) {
            int c = k;
            if (items[c] != null && all.stream().mapToInt(f -> f[c]).distinct().count() == 1) bits |= 1 << c;
        }
        return bits;
    }

    int like(int weights, int r, int turns) {
        if (!in(weights, 0, 5) || !in(r, 0, 5) || !in(turns, 1, 20000)) return BAD;
        if (rows[weights] == null) return find(NOTHING);
        if (rows[weights].length != 10) return find(SIZE);
        for (int w : rows[weights]) if (!in(w, 0, 99)) return find(UNLIKE);
        List<int[]> all = allFillings(turns);
        if (all == null) return SPENT;
        if (all.isEmpty()) return NONE;
        int best = -1;
        int[] likeliest = null;
        for (int[] f : all) {
            int weight = 0;
            for (int v : f) weight += v < 0 ? 0 : rows[weights][v % 10];
            if (weight > best) {
                best = weight;
                likeliest = f;
            }
        }
        rows[r] = likeliest.clone();
        return best;
    }

    int wrong(int turns) {
        if (!in(turns, 1, 20000)) return BAD;
        for (int size = 0; size <= sums.size(); size++) {
            for (int bits = 0; bits < 1 << sums.size(); bits++) {
                if (Integer.bitCount(bits) != size) continue;
                List<int[]> one = fillings(1, turns, bits);
                if (one == null) return SPENT;
                if (!one.isEmpty()) return bits;
            }
        }
        return NONE;
    }

    int next(int turns) {
        if (!in(turns, 1, 20000)) return BAD;
        List<int[]> all = allFillings(turns);
        if (all == null) return SPENT;
        int best = NONE;
        int least = Integer.MAX_VALUE;
        for (int c = 0; c < 12; c++) {
            if (items[c] == null || all.isEmpty()) continue;
            TreeMap<Integer, Integer> often = new TreeMap<>();
            for (int[] f : all) often.merge(f[c], 1, Integer::sum);
            int worth = often.values().stream().mapToInt(n -> n).max().getAsInt();
            if (worth < least) {
                least = worth;
                best = c;
            }
        }
        if (best != NONE) asked = least;
        return best;
    }

    int judge(int r) {
        if (!in(r, 0, 5)) return BAD;
        if (rows[r] == null) return find(NOTHING);
        if (rows[r].length != 12) return find(SIZE);
        int[] f = rows[r];
        for (int c = 0; c < 12; c++) if (!rightIn(c, f)) return 100 + c;
        for (int s = 0; s < sums.size(); s++) {
            int value = 0;
            for (int c = 0; c < 12; c++) {
                if (items[c] == null) continue;
                value += ((sums.get(s)[0] >> c & 1) - (sums.get(s)[1] >> c & 1)) * f[c];
            }
            if (value != sums.get(s)[2]) return 200 + s;
        }
        return NONE;
    }

    private boolean rightIn(int c, int[] f) {
        if (items[c] == null) return f[c] == -1;
        if (!in(f[c], 0, 99) || !ofKind(c, f[c])) return false;
        if (kindOf(c) == 3) return sameOnes(f, c, f[c]) <= inHeap(f[c]);
        if (kindOf(c) == 4) return in(f[named(c, 0)], 0, 99) && f[c] > f[named(c, 0)];
        if (kindOf(c) != 2) return true;
        int a = f[named(c, 0)];
        int b = f[named(c, 1)];
        return in(a, 0, 99) && in(b, 0, 99) && f[c] == a * b;
    }

    int orders(int r) {
        if (!in(r, 0, 5)) return BAD;
        if (rows[r] == null) return find(NOTHING);
        int n = rows[r].length / 2;
        if (rows[r].length % 2 == 1 || !in(n, 1, 6)) return find(SIZE);
        for (int v : rows[r]) if (v != NONE && !in(v, 0, 9999)) return find(UNLIKE);
        int found = 0;
        int first = 0;
        for (int number = 1; number <= 654321; number++) {
            String pages = Integer.toString(number);
            if (pages.length() != n || !runsOn(pages, rows[r])) continue;
            if (found == 0) first = number;
            found++;
        }
        asked = first;
        return found;
    }

    private static boolean runsOn(String pages, int[] row) {
        int n = pages.length();
        if (pages.chars().distinct().count() != n) return false;
        if (pages.chars().anyMatch(p -> p < '1' || p >= '1' + n)) return false;
        for (int k = 0; k + 1 < n; k++) {
            int out = row[2 * (pages.charAt(k) - '1') + 1];
            int in = row[2 * (pages.charAt(k + 1) - '1')];
            if (out != in && out != NONE && in != NONE) return false;
        }
        return true;
    }

    int matches() {
        List<Integer> same = new ArrayList<>();
        for (int c = 0; c < 12; c++) if (items[c] != null && kindOf(c) == 3) same.add(c);
        List<TreeSet<Integer>> numbers = new ArrayList<>();
        for (int k = 0; k < same.size(); k++) numbers.add(new TreeSet<>());
        int n = give(0, same, new int[12], 0, narrowed(0), numbers);
        int bits = 0;
        for (int k = 0; k < same.size(); k++) if (numbers.get(k).size() == 1) bits |= 1 << same.get(k);
        asked = bits;
        return n;
    }

    private int give(int k, List<Integer> same, int[] given, int used, List<TreeSet<Integer>> left, List<TreeSet<Integer>> numbers) {
        if (k == same.size()) {
            for (int j = 0; j < k; j++) numbers.get(j).add(given[j]);
            return 1;
        }
        int n = 0;
        for (int p = 0; p < heap.length; p++) {
            if ((used >> p & 1) == 0 && left.get(same.get(k)).contains(heap[p])) {
                given[k] = heap[p];
                n += give(k + 1, same, given, used | 1 << p, left, numbers);
            }
        }
        return n;
    }

    int asked() {
        return asked;
    }

    long upper() {
        return upper;
    }

    long lower() {
        return lower;
    }

    int there(int what) {
        switch (what) {
            case 0: return (int) Arrays.stream(items).filter(i -> i != null).count();
            case 1: return sums.size();
            case 2: return heap.length;
            case 3: return (int) Arrays.stream(rows).filter(r -> r != null).count();
            case 4: return (int) Arrays.stream(texts).filter(t -> t != null).count();
            default: return BAD;
        }
    }

    int finding() {
        return finding;
    }

    int findings(int f) {
        return in(f, 1, 5) ? findings[f] : BAD;
    }

    long digest() {
        List<Integer> all = new ArrayList<>();
        for (int what = 0; what <= 4; what++) all.add(there(what));
        for (int c = 0; c < 12; c++) {
            all.add(items[c] == null ? -1 : kindOf(c));
            if (items[c] != null) {
                all.add(tells(c));
                all.add(atFirst(c).size());
            }
        }
        for (int[] sum : sums) for (int v : sum) all.add(v);
        for (int v : heap) all.add(v);
        for (int[] r : rows) {
            all.add(r == null ? -1 : r.length);
            if (r != null) for (int v : r) all.add(v);
        }
        for (byte[] t : texts) {
            all.add(t == null ? -1 : t.length);
            if (t != null) for (byte b : t) all.add((int) b);
        }
        long h = 17;
        for (int v : all) h = 31 * h + v;
        return h;
    }

    /** How many ways matches() would have to try at most: so that a test can keep clear of too many. */
    double matchWork() {
        double ways = 1;
        int k = 0;
        for (int c = 0; c < 12; c++) if (items[c] != null && kindOf(c) == 3) ways *= Math.max(heap.length - k++, 1);
        return ways;
    }
}
