import java.util.ArrayDeque;
import java.util.ArrayList;
import java.util.Deque;
import java.util.List;
import java.util.Map;
import java.util.TreeMap;

/** The document once more, word for word and without haste: words are texts of 72 signs '0' and '1'. */
final class Model {
    static final int NONE = -1, UNKNOWN = -1000000001, OUTSIDE = -1000000002, NOT = -1000000003, FULL = -1000000004;

    private record Branch(int bit, int depth, int first, int many, int left, int above) { }

    private record Image(TreeMap<String, Integer> keys, long seed) { }

    private String word = "";
    private TreeMap<String, Integer> keys = new TreeMap<>();
    private final Deque<TreeMap<String, Integer>> past = new ArrayDeque<>();
    private final Image[] images = new Image[2];
    private long seed;

    static String bits(String word) {
        StringBuilder all = new StringBuilder();
        for (int i = 0; i < 8; i++) {
            int letter = i < word.length() ? 256 + word.charAt(i) : 0;
            for (int b = 256; b > 0; b /= 2) {
                all.append((letter & b) != 0 ? '1' : '0');
            }
        }
        return all.toString();
    }

    static String letters(String bits) {
        StringBuilder all = new StringBuilder();
        for (int i = 0; i < 8; i++) {
            if (bits.charAt(9 * i) == '1') {
                all.append((char) Integer.parseInt(bits.substring(9 * i + 1, 9 * i + 9), 2));
            }
        }
        return all.toString();
    }

    static int firstUnlike(String a, String b) {
        for (int i = 0; i < 72; i++) {
            if (a.charAt(i) != b.charAt(i)) {
                return i;
            }
        }
        return 72;
    }

    private List<String> all() {
        return new ArrayList<>(keys.keySet());
    }

    private boolean noKey(int k) {
        return k < 0 || k >= keys.size();
    }

    private static boolean out(int n, int least, int most) {
        return n < least || n > most;
    }

    private static int split(List<String> some) {
        int least = 72;
        for (String a : some) {
            for (String b : some) {
                least = Math.min(least, firstUnlike(a, b));
            }
        }
        return least;
    }

    private static void grow(List<String> some, int first, int depth, int above, List<Branch> to) {
        if (some.size() < 2) {
            return;
        }
        int bit = split(some);
        List<String> left = new ArrayList<>(), right = new ArrayList<>();
        for (String s : some) {
            (s.charAt(bit) == '0' ? left : right).add(s);
        }
        int me = to.size();
        to.add(new Branch(bit, depth, first, some.size(), left.size(), above));
        grow(left, first, depth + 1, me, to);
        grow(right, first + left.size(), depth + 1, me, to);
    }

    private static List<Branch> branches(List<String> some) {
        List<Branch> to = new ArrayList<>();
        grow(some, 0, 0, NONE, to);
        return to;
    }

    private static List<Integer> way(List<Branch> branches, int k) {
        List<Integer> on = new ArrayList<>();
        for (int b = 0; b < branches.size(); b++) {
            Branch it = branches.get(b);
            if (k >= it.first && k < it.first + it.many) {
                on.add(b);
            }
        }
        return on;
    }

    private static int deepest(List<String> some) {
        List<Branch> branches = branches(some);
        int most = 0;
        for (int k = 0; k < some.size(); k++) {
            most = Math.max(most, way(branches, k).size());
        }
        return most;
    }

    int feed(int letter) {
        if (out(letter, 0, 255)) {
            return OUTSIDE;
        }
        if (word.length() == 8) {
            return FULL;
        }
        word += (char) letter;
        return word.length();
    }

    int wipe() {
        int had = word.length();
        word = "";
        return had;
    }

    int type(int k) {
        if (noKey(k)) {
            return UNKNOWN;
        }
        word = letters(all().get(k));
        return word.length();
    }

    int told(int what) {
        List<String> all = all();
        List<Branch> branches = branches(all);
        int depths = 0, worths = 0, place = 0, bit = NONE;
        for (int k = 0; k < all.size(); k++) {
            depths += way(branches, k).size();
            worths += keys.get(all.get(k));
            place += all.get(k).compareTo(bits(word)) < 0 ? 1 : 0;
        }
        for (Branch b : branches) {
            bit = Math.max(bit, b.bit);
        }
        return switch (what) {
            case 0 -> all.size();
            case 1 -> branches.size();
            case 2 -> word.length();
            case 3 -> deepest(all);
            case 4 -> depths;
            case 5 -> worths;
            case 6 -> branches.isEmpty() ? NONE : branches.get(0).bit;
            case 7 -> bit;
            case 8 -> place;
            case 9 -> all.indexOf(bits(word));
            case 10 -> past.size();
            default -> OUTSIDE;
        };
    }

    int key(int k, int what) {
        if (noKey(k)) {
            return UNKNOWN;
        }
        if (out(what, 0, 12)) {
            return OUTSIDE;
        }
        List<String> all = all();
        String bits = all.get(k);
        String letters = letters(bits);
        if (what < 8) {
            return what < letters.length() ? letters.charAt(what) : NONE;
        }
        List<String> rest = new ArrayList<>(all);
        rest.remove(k);
        return switch (what) {
            case 8 -> letters.length();
            case 9 -> keys.get(bits);
            case 10 -> way(branches(all), k).size();
            case 11 -> firstUnlike(bits, bits(word));
            default -> deepest(rest);
        };
    }

    int branch(int b, int what) {
        List<Branch> branches = branches(all());
        if (b < 0 || b >= branches.size()) {
            return UNKNOWN;
        }
        Branch it = branches.get(b);
        return switch (what) {
            case 0 -> it.bit;
            case 1 -> it.depth;
            case 2 -> it.many;
            case 3 -> it.left;
            case 4 -> it.first;
            case 5 -> it.above;
            default -> OUTSIDE;
        };
    }

    private void remember() {
        past.push(new TreeMap<>(keys));
        if (past.size() > 20) {
            past.removeLast();
        }
    }

    int put(int worth) {
        if (out(worth, 0, 9999)) {
            return OUTSIDE;
        }
        if (!keys.containsKey(bits(word)) && keys.size() == 24) {
            return FULL;
        }
        remember();
        Integer was = keys.put(bits(word), worth);
        return was == null ? NONE : was;
    }

    int take() {
        if (!keys.containsKey(bits(word))) {
            return NOT;
        }
        remember();
        return keys.remove(bits(word));
    }

    private List<String> begun() {
        List<String> some = new ArrayList<>();
        for (String s : keys.keySet()) {
            if (letters(s).startsWith(word)) {
                some.add(s);
            }
        }
        return some;
    }

    int cut() {
        remember();
        List<String> some = begun();
        some.forEach(keys::remove);
        return some.size();
    }

    int raise(int more) {
        if (out(more, 1, 9999)) {
            return OUTSIDE;
        }
        remember();
        List<String> some = begun();
        some.forEach(s -> keys.put(s, Math.min(9999, keys.get(s) + more)));
        return some.size();
    }

    private int draw(int n) {
        seed = (seed * 1103515245L + 12345L) % 2147483648L;
        return (int) (seed / 65536 % n);
    }

    private void byDraws() {
        int size = draw(4);
        StringBuilder letters = new StringBuilder();
        for (int i = 0; i < size; i++) {
            letters.append((char) (draw(3) + 97));
        }
        String bits = bits(letters.toString());
        if (draw(4) == 0 && keys.containsKey(bits)) {
            keys.remove(bits);
            return;
        }
        int worth = draw(1000);
        if (keys.containsKey(bits) || keys.size() < 24) {
            keys.put(bits, worth);
        }
    }

    int drift(int n) {
        if (out(n, 1, 20)) {
            return OUTSIDE;
        }
        for (int i = 0; i < n; i++) {
            remember();
            byDraws();
        }
        return keys.size();
    }

    int undo(int n) {
        if (out(n, 1, 20)) {
            return OUTSIDE;
        }
        if (n > past.size()) {
            return NOT;
        }
        for (int i = 0; i < n; i++) {
            keys = past.pop();
        }
        return keys.size();
    }

    int below(int what) {
        List<String> some = begun();
        int worths = 0;
        String best = null;
        for (String s : some) {
            worths += keys.get(s);
            if (best == null || keys.get(s) > keys.get(best)) {
                best = s;
            }
        }
        return switch (what) {
            case 0 -> some.size();
            case 1 -> some.isEmpty() ? NONE : all().indexOf(some.get(0));
            case 2 -> worths;
            case 3 -> all().indexOf(best);
            default -> OUTSIDE;
        };
    }

    int stem() {
        for (int size = word.length(); size >= 0; size--) {
            int k = all().indexOf(bits(word.substring(0, size)));
            if (k >= 0) {
                return k;
            }
        }
        return NONE;
    }

    int beside(int what) {
        if (out(what, 0, 1)) {
            return OUTSIDE;
        }
        String beside = what == 0 ? keys.lowerKey(bits(word)) : keys.higherKey(bits(word));
        return all().indexOf(beside);
    }

    private int mostShared() {
        int most = NONE;
        for (String s : keys.keySet()) {
            most = Math.max(most, firstUnlike(s, bits(word)));
        }
        return most;
    }

    int closest() {
        List<String> all = all();
        for (int k = 0; k < all.size(); k++) {
            if (firstUnlike(all.get(k), bits(word)) == mostShared()) {
                return k;
            }
        }
        return NONE;
    }

    int off() {
        return keys.containsKey(bits(word)) ? NONE : mostShared();
    }

    int blind(int what) {
        if (out(what, 0, 1)) {
            return OUTSIDE;
        }
        List<String> here = all();
        int looks = 0;
        while (here.size() > 1) {
            int bit = split(here);
            here.removeIf(s -> s.charAt(bit) != bits(word).charAt(bit));
            looks++;
        }
        return what == 1 ? looks : here.isEmpty() ? NONE : all().indexOf(here.get(0));
    }

    int way(int k, int i) {
        if (noKey(k)) {
            return UNKNOWN;
        }
        List<Integer> on = way(branches(all()), k);
        return out(i, 0, on.size() - 1) ? NONE : on.get(i);
    }

    int unlike(int k, int j) {
        return noKey(k) || noKey(j) || k == j ? UNKNOWN : firstUnlike(all().get(k), all().get(j));
    }

    int bit(int i) {
        return out(i, 0, 71) ? OUTSIDE : bits(word).charAt(i) - '0';
    }

    int seed(int v) {
        if (v < 0) {
            return OUTSIDE;
        }
        int was = (int) seed;
        seed = v;
        return was;
    }

    int keep(int i) {
        if (out(i, 0, 1)) {
            return UNKNOWN;
        }
        images[i] = new Image(new TreeMap<>(keys), seed);
        past.clear();
        return 1;
    }

    int goBack(int i) {
        if (out(i, 0, 1)) {
            return UNKNOWN;
        }
        if (images[i] == null) {
            return NOT;
        }
        keys = new TreeMap<>(images[i].keys);
        seed = images[i].seed;
        past.clear();
        return 1;
    }

    Map<String, Integer> keysNow() {
        return keys;
    }
}
