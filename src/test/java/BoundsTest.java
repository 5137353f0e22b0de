import java.util.function.Function;
import java.util.function.IntUnaryOperator;
import java.util.function.Supplier;

/** Promises 1 to 25: each call's first and last number that is allowed, the first that is not on either side; no, one, 24 keys. */
public final class BoundsTest {
    private static final int NONE = -1, UNKNOWN = -1000000001, OUTSIDE = -1000000002, NOT = -1000000003, FULL = -1000000004;
    private static final int LEAST = Integer.MIN_VALUE, MOST = Integer.MAX_VALUE;

    private static final Checks C = new Checks();

    private BoundsTest() {
    }

    public static void main(String[] args) {
        newObject();
        feed();
        wipe();
        type();
        told();
        toldOfOneKey();
        toldOf24();
        key();
        keyLetters();
        keyShared();
        branch();
        put();
        putAmong24();
        take();
        cut();
        raise();
        raiseTo9999();
        drift();
        undo();
        below();
        belowAmong24();
        stem();
        beside();
        closest();
        off();
        blind();
        way();
        unlike();
        bit();
        seed();
        keep();
        goBack();
        C.end();
    }

    /** The first and the last are answered, what is beyond either is refused; each is asked of a new object. */
    private static void bounds(String call, int first, int last, int refusal, Supplier<BitBranches> made,
            Function<BitBranches, IntUnaryOperator> of) {
        for (int n : new int[] {first, last}) {
            int answer = of.apply(made.get()).applyAsInt(n);
            C.holds(call + " with " + n + " is not refused, but answered " + answer, answer >= NONE);
        }
        for (int n : new int[] {first - 1, last + 1, LEAST, MOST}) {
            if (n < first || n > last) {
                C.due(call + " with " + n, of.apply(made.get()).applyAsInt(n), refusal);
            }
        }
    }

    /** "No KEYS; THE WORD is empty." */
    private static void newObject() {
        BitBranches x = new BitBranches();
        C.due("1: KEYS", x.told(0), 0);
        C.due("1: KEY 0", x.type(0), UNKNOWN);
        C.due("1: LETTERS of THE WORD", x.told(2), 0);
        for (int i = 0; i < 72; i++) {
            C.due("1: BIT " + i, x.bit(i), 0);
        }
        C.due("1: THE SEED is 0 at first", x.seed(1), 0);
        C.due("1: nothing can be undone", x.undo(1), NOT);
        C.due("1: IMAGE 0 is not kept", x.goBack(0), NOT);
        C.due("1: IMAGE 1 is not kept", x.goBack(1), NOT);
    }

    /** "A LETTER (0 .. 255) comes behind THE WORD: how many it has. OUTSIDE, FULL (8)." */
    private static void feed() {
        bounds("2: feed()", 0, 255, OUTSIDE, BitBranches::new, x -> x::feed);
        BitBranches x = new BitBranches();
        for (int i = 1; i <= 8; i++) {
            C.due("2: LETTER " + i + " of 8", x.feed(255), i);
        }
        C.due("2: the ninth", x.feed(0), FULL);
        C.due("2: and again", x.feed(255), FULL);
        C.due("2: 8 are there", x.told(2), 8);
        x.wipe();
        C.due("2: one is taken again when it is wiped", x.feed(0), 1);
    }

    /** "THE WORD is empty: how many LETTERS it had." */
    private static void wipe() {
        for (int letters = 0; letters <= 8; letters++) {
            BitBranches x = new BitBranches();
            Checks.word(x, "\u00ff".repeat(letters));
            C.due("3: wipe() of " + letters, x.wipe(), letters);
            C.due("3: LETTERS then", x.told(2), 0);
            for (int i = 0; i < 72; i++) {
                C.due("3: BIT " + i + " then", x.bit(i), 0);
            }
        }
    }

    /** "THE WORD becomes a KEY: how many LETTERS it has. UNKNOWN." */
    private static void type() {
        bounds("4: type() among 24", 0, 23, UNKNOWN, States::full, x -> x::type);
        bounds("4: type() of one key", 0, 0, UNKNOWN, () -> Checks.with("a"), x -> x::type);
        BitBranches x = Checks.with("", "\u00ff\0\u00ff\0\u00ff\0\u00ff\1");
        C.due("4: 8 letters", x.type(1), 8);
        C.due("4: it is the KEY", x.told(9), 1);
        C.due("4: no ninth", x.feed(0), FULL);
        C.due("4: the empty word", x.type(0), 0);
        C.due("4: it is the KEY", x.told(9), 0);
        C.due("4: nothing of the longer one is left", x.bit(1), 0);
    }

    /** "0 KEYS, 1 BRANCHES, .. 10 how many can be undone. OUTSIDE." */
    private static void told() {
        bounds("5: told() of no key", 0, 10, OUTSIDE, BitBranches::new, x -> x::told);
        bounds("5: told() among 24", 0, 10, OUTSIDE, States::full, x -> x::told);
        int[] none = {0, 0, 0, 0, 0, 0, NONE, NONE, 0, NONE, 0};
        for (int what = 0; what < none.length; what++) {
            C.due("5: told(" + what + ") of no key", new BitBranches().told(what), none[what]);
        }
    }

    private static void toldOfOneKey() {
        int[] empty = {1, 0, 0, 0, 0, 10, NONE, NONE, 0, 0, 1};
        int[] eight = {1, 0, 8, 0, 0, 10, NONE, NONE, 0, 0, 1};
        for (int what = 0; what < empty.length; what++) {
            C.due("5: told(" + what + ") of the empty word alone", Checks.with("").told(what), empty[what]);
            BitBranches x = Checks.with("aaaaaaaa");
            x.type(0);
            C.due("5: told(" + what + ") of 8 letters alone", x.told(what), eight[what]);
        }
    }

    private static void toldOf24() {
        BitBranches x = States.withMixed(States.lineToTheRight(49));
        x.wipe();
        x.raise(9999);
        int[] want = {24, 23, 0, 23, 299, 24 * 9999, 49, 71, 0, NONE, 20};
        for (int what = 0; what < want.length; what++) {
            C.due("5: told(" + what + ") of the deepest tree", x.told(what), want[what]);
        }
        Checks.word(x, "\u00ff\u00ff\u00ff\u00ff\u00ff\u00ff\u00ff\u00ff");
        C.due("5: PLACE of the last KEY", x.told(8), 23);
        C.due("5: which KEY it is", x.told(9), 23);
        BitBranches y = States.full();
        Checks.word(y, "y");
        C.due("5: PLACE behind 24", y.told(8), 24);
        C.due("5: no KEY", y.told(9), NONE);
    }

    /** "Of a KEY: what = 0 .. 7 the LETTER (NONE), 8 .., 9 .., 10 DEPTH, 11 SHARED .., 12 WITHOUT. UNKNOWN, OUTSIDE." */
    private static void key() {
        bounds("6: key(k, 8) among 24", 0, 23, UNKNOWN, States::full, x -> k -> x.key(k, 8));
        bounds("6: key(k, 8) of one key", 0, 0, UNKNOWN, () -> Checks.with("a"), x -> k -> x.key(k, 8));
        bounds("6: key(0, what)", 0, 12, OUTSIDE, States::full, x -> what -> x.key(0, what));
        bounds("6: key(23, what)", 0, 12, OUTSIDE, States::full, x -> what -> x.key(23, what));
        BitBranches x = Checks.with("a", "b");
        x.wipe();
        Checks.put(x, "a", 0);
        Checks.put(x, "b", 9999);
        C.due("6: the least worth", x.key(0, 9), 0);
        C.due("6: the most worth", x.key(1, 9), 9999);
    }

    private static void keyLetters() {
        String[] words = {"", "\0", "\0\u00ff", "\0\u00ff\0\u00ff\0\u00ff\0\u00ff"};
        BitBranches x = Checks.with(words);
        for (int k = 0; k < words.length; k++) {
            C.due("6: how many LETTERS", x.key(k, 8), words[k].length());
            for (int i = 0; i < 8; i++) {
                int want = i < words[k].length() ? words[k].charAt(i) : NONE;
                C.due("6: LETTER " + i + " of KEY " + k, x.key(k, i), want);
            }
        }
    }

    /** "SHARED of THE WORD and a KEY: the first BIT at which they are unlike (72: none)." */
    private static void keyShared() {
        BitBranches x = Checks.with("aaaaaaaa");
        C.due("6: SHARED with the empty word", x.key(0, 11), 0);
        for (int letters = 1; letters < 8; letters++) {
            x.feed('a');
            C.due("6: SHARED with a beginning of " + letters, x.key(0, 11), 9 * letters);
        }
        x.feed('`');
        C.due("6: SHARED up to the last BIT", x.key(0, 11), 71);
        x.type(0);
        C.due("6: unlike nowhere", x.key(0, 11), 72);
        BitBranches empty = Checks.with("");
        C.due("6: the empty word and itself", empty.key(0, 11), 72);
        empty.feed(0);
        C.due("6: the empty word and a letter 0", empty.key(0, 11), 0);
    }

    /** "Of a BRANCH: what = 0 the BIT, .. 5 the BRANCH above it (NONE). UNKNOWN, OUTSIDE." */
    private static void branch() {
        bounds("7: branch(b, 0) of 23", 0, 22, UNKNOWN, States::full, x -> b -> x.branch(b, 0));
        bounds("7: branch(b, 0) of one", 0, 0, UNKNOWN, () -> Checks.with("a", "b"), x -> b -> x.branch(b, 0));
        bounds("7: branch(0, what)", 0, 5, OUTSIDE, States::full, x -> what -> x.branch(0, what));
        bounds("7: branch(22, what)", 0, 5, OUTSIDE, States::full, x -> what -> x.branch(22, what));
        int[] two = {71, 0, 2, 1, 0, NONE};
        for (int what = 0; what < two.length; what++) {
            C.due("7: branch(0, " + what + ") of two", Checks.with("aaaaaaaa", "aaaaaaa`").branch(0, what), two[what]);
        }
        C.due("7: at the first BIT of all", Checks.with("", "a").branch(0, 0), 0);
    }

    /** "PUT (0 .. 9999): what it was worth; NONE: it is new. OUTSIDE, FULL (24)." */
    private static void put() {
        bounds("8: put()", 0, 9999, OUTSIDE, BitBranches::new, x -> x::put);
        bounds("8: put() of a KEY", 0, 9999, OUTSIDE, () -> Checks.with(""), x -> x::put);
        BitBranches x = new BitBranches();
        C.due("8: it is new", x.put(0), NONE);
        C.due("8: it was worth 0", x.put(9999), 0);
        C.due("8: it was worth 9999", x.put(9999), 9999);
        C.due("8: a KEY once", x.told(0), 1);
        C.due("8: 8 letters", Checks.put(x, "aaaaaaaa", 1), NONE);
        C.due("8: they are a KEY", x.told(9), 1);
    }

    private static void putAmong24() {
        BitBranches x = Checks.with("abcdefghijklmnopqrstuvw".split(""));
        C.due("8: 23 KEYS", x.told(0), 23);
        C.due("8: the 24th", Checks.put(x, "x", 1), NONE);
        C.due("8: the 25th, behind all", Checks.put(x, "y", 1), FULL);
        C.due("8: the 25th, ahead of all", Checks.put(x, "", 1), FULL);
        C.due("8: the 25th, among them", Checks.put(x, "kk", 1), FULL);
        C.due("8: the first of 24 again", Checks.put(x, "a", 2), 10);
        C.due("8: the last of 24 again", Checks.put(x, "x", 3), 1);
        C.due("8: 24 KEYS", x.told(0), 24);
        C.due("8: 23 BRANCHES", x.told(1), 23);
        x.take();
        C.due("8: there is room again", Checks.put(x, "y", 1), NONE);
        C.due("8: and none again", Checks.put(x, "z", 1), FULL);
    }

    /** "THE WORD is TAKEN: what it was worth. NOT: it is no KEY." */
    private static void take() {
        C.due("9: of no KEY", new BitBranches().take(), NOT);
        C.due("9: of one KEY", Checks.with("").take(), 10);
        BitBranches x = States.full();
        x.type(23);
        C.due("9: the last of 24", x.take(), 240);
        C.due("9: it is gone", x.take(), NOT);
        x.type(0);
        C.due("9: the first", x.take(), 10);
        C.due("9: 22 are left", x.told(0), 22);
        C.due("9: and 21 BRANCHES", x.told(1), 21);
        BitBranches worths = new BitBranches();
        worths.put(0);
        C.due("9: the least worth", worths.take(), 0);
        worths.put(9999);
        C.due("9: the most worth", worths.take(), 9999);
        C.due("9: none is left", worths.told(0), 0);
        BitBranches y = Checks.with("a", "abc");
        Checks.word(y, "ab");
        C.due("9: a beginning of a KEY is none", y.take(), NOT);
        Checks.word(y, "a\0");
        C.due("9: a letter 0 behind a KEY makes another WORD", y.take(), NOT);
    }

    /** "CUT: how many." */
    private static void cut() {
        C.due("10: of no KEY", new BitBranches().cut(), 0);
        BitBranches x = States.full();
        Checks.word(x, "y");
        C.due("10: none begins with it", x.cut(), 0);
        C.due("10: all stay", x.told(0), 24);
        Checks.word(x, "xa");
        C.due("10: a KEY that is its beginning stays", x.cut(), 0);
        Checks.word(x, "x");
        C.due("10: the KEY itself goes", x.cut(), 1);
        x.wipe();
        C.due("10: all that are left", x.cut(), 23);
        C.due("10: no KEYS", x.told(0), 0);
        C.due("10: no BRANCHES", x.told(1), 0);
        BitBranches all = States.full();
        C.due("10: all 24", all.cut(), 24);
        C.due("10: one may be PUT then", all.put(1), NONE);
        BitBranches eight = Checks.with("aaaaaaa", "aaaaaaaa", "aaaaaaab");
        Checks.word(eight, "aaaaaaaa");
        C.due("10: 8 letters", eight.cut(), 1);
        Checks.word(eight, "aaaaaaa");
        C.due("10: 7 letters and what begins with them", eight.cut(), 2);
    }

    /** "RAISED (1 .. 9999): how many. OUTSIDE." */
    private static void raise() {
        bounds("11: raise() of no key", 1, 9999, OUTSIDE, BitBranches::new, x -> x::raise);
        bounds("11: raise() among 24", 1, 9999, OUTSIDE, States::full, x -> x::raise);
        C.due("11: of no KEY", new BitBranches().raise(1), 0);
        C.due("11: of all 24", States.full().raise(1), 24);
        BitBranches x = Checks.with("a", "aa", "aaaaaaaa", "b");
        Checks.word(x, "aaaaaaaa");
        C.due("11: 8 letters", x.raise(1), 1);
        Checks.word(x, "a");
        C.due("11: three", x.raise(2), 3);
        C.due("11: the first of them", x.key(0, 9), 12);
        C.due("11: the last of them", x.key(2, 9), 33);
        C.due("11: not the next", x.key(3, 9), 40);
    }

    /** "RAISED: the worth of all KEYS that begin with THE WORD becomes so much more (9999 at most)." */
    private static void raiseTo9999() {
        int[][] cases = {{0, 1, 1}, {0, 9999, 9999}, {1, 9998, 9999}, {9998, 1, 9999}, {9998, 2, 9999}, {9999, 1, 9999}, {9999, 9999, 9999}};
        for (int[] c : cases) {
            BitBranches x = new BitBranches();
            x.put(c[0]);
            x.raise(c[1]);
            C.due("11: " + c[0] + " and " + c[1] + " more", x.key(0, 9), c[2]);
        }
    }

    /** "n times BY DRAWS (1 .. 20): KEYS. OUTSIDE." */
    private static void drift() {
        bounds("12: drift() of no key", 1, 20, OUTSIDE, BitBranches::new, x -> x::drift);
        bounds("12: drift() among 24", 1, 20, OUTSIDE, States::full, x -> x::drift);
        BitBranches x = new BitBranches();
        C.due("12: once", x.drift(1), 1);
        C.due("12: it answers the KEYS", x.told(0), 1);
        C.due("12: one deed", x.told(10), 1);
        x.seed(109);
        C.due("12: 20 times", x.drift(20), x.told(0));
        C.due("12: 20 deeds", x.told(10), 20);
    }

    /** "The n latest (1 .. 20) are undone: KEYS. OUTSIDE, NOT: not so many." */
    private static void undo() {
        bounds("13: undo() of 24 deeds", 1, 20, OUTSIDE, States::full, x -> x::undo);
        C.due("13: one of 24", States.full().undo(1), 23);
        C.due("13: 20 of 24", States.full().undo(20), 4);
        C.due("13: one of one", Checks.with("a").undo(1), 0);
        C.due("13: two of one", Checks.with("a").undo(2), NOT);
        C.due("13: one of none", new BitBranches().undo(1), NOT);
        C.due("13: 20 of 19", Checks.with("abcdefghijklmnopqrs".split("")).undo(20), NOT);
        C.due("13: 20 of 20", Checks.with("abcdefghijklmnopqrst".split("")).undo(20), 0);
    }

    /** "BELOW: what = 0 how many, 1 the first, 2 their worths, 3 the most worth one (1, 3: NONE). OUTSIDE." */
    private static void below() {
        bounds("14: below() of no key", 0, 3, OUTSIDE, BitBranches::new, x -> x::below);
        bounds("14: below() among 24", 0, 3, OUTSIDE, States::full, x -> x::below);
        int[] none = {0, NONE, 0, NONE};
        for (int what = 0; what < none.length; what++) {
            C.due("14: below(" + what + ") of no key", new BitBranches().below(what), none[what]);
            BitBranches x = States.full();
            Checks.word(x, "xx");
            C.due("14: below(" + what + ") where none begins so", x.below(what), none[what]);
        }
        BitBranches nil = new BitBranches();
        nil.put(0);
        int[] worthless = {1, 0, 0, 0};
        for (int what = 0; what < worthless.length; what++) {
            C.due("14: below(" + what + ") of a worth of 0", nil.below(what), worthless[what]);
        }
    }

    private static void belowAmong24() {
        BitBranches x = States.full();
        int[] all = {24, 0, 3000, 23};
        for (int what = 0; what < all.length; what++) {
            C.due("14: below(" + what + ") of all 24", x.below(what), all[what]);
        }
        x.raise(9999);
        C.due("14: 24 times 9999", x.below(2), 24 * 9999);
        C.due("14: of like ones the first", x.below(3), 0);
        Checks.put(x, "a", 9998);
        x.wipe();
        C.due("14: of the others the first", x.below(3), 1);
        Checks.word(x, "x");
        int[] last = {1, 23, 9999, 23};
        for (int what = 0; what < last.length; what++) {
            C.due("14: below(" + what + ") of the last", x.below(what), last[what]);
        }
    }

    /** "STEM: the KEY; NONE." */
    private static void stem() {
        C.due("15: of no KEY", new BitBranches().stem(), NONE);
        C.due("15: the empty word's is the empty word", Checks.with("").stem(), 0);
        C.due("15: the empty word begins with no other", Checks.with("a").stem(), NONE);
        String[] line = {"", "a", "aa", "aaa", "aaaa", "aaaaa", "aaaaaa", "aaaaaaa", "aaaaaaaa"};
        BitBranches x = Checks.with(line);
        for (int letters = 0; letters <= 8; letters++) {
            Checks.word(x, line[letters]);
            C.due("15: of " + letters + " letters", x.stem(), letters);
        }
        Checks.word(x, "aaaaaaab");
        C.due("15: all but the last letter", x.stem(), 7);
        Checks.word(x, "baaaaaaa");
        C.due("15: none but the empty word", x.stem(), 0);
        BitBranches zero = Checks.with("a\0");
        Checks.word(zero, "a");
        C.due("15: a letter 0 is not the end", zero.stem(), NONE);
    }

    /** "BESIDE: what = 0 the lesser one, 1 the greater one; NONE. OUTSIDE." */
    private static void beside() {
        bounds("16: beside() of no key", 0, 1, OUTSIDE, BitBranches::new, x -> x::beside);
        bounds("16: beside() among 24", 0, 1, OUTSIDE, States::full, x -> x::beside);
        for (int what = 0; what < 2; what++) {
            C.due("16: beside(" + what + ") of no key", new BitBranches().beside(what), NONE);
            C.due("16: beside(" + what + ") of itself alone", Checks.with("").beside(what), NONE);
        }
        C.due("16: ahead of one key", Checks.with("a").beside(1), 0);
        C.due("16: nothing is less", Checks.with("a").beside(0), NONE);
        String[][] cases = {{"", "-1", "0"}, {"a", "-1", "1"}, {"a\0", "0", "1"}, {"w\u00ff", "22", "23"}, {"x", "22", "-1"}, {"x\0", "23", "-1"}};
        BitBranches x = States.full();
        for (String[] c : cases) {
            Checks.word(x, c[0]);
            C.due("16: less than " + c[0], x.beside(0), Integer.parseInt(c[1]));
            C.due("16: greater than " + c[0], x.beside(1), Integer.parseInt(c[2]));
        }
    }

    /** "CLOSEST; NONE." */
    private static void closest() {
        C.due("17: of no KEY", new BitBranches().closest(), NONE);
        C.due("17: of one KEY, though they share nothing", Checks.with("a").closest(), 0);
        C.due("17: of like ones the least of 24", States.full().closest(), 0);
        BitBranches x = States.full();
        Checks.word(x, "\u00ff");
        C.due("17: of like ones the least of 24 again", x.closest(), 0);
        Checks.word(x, "\u007f");
        C.due("17: x alone shares 6 BITS", x.closest(), 23);
        x.type(23);
        C.due("17: the last KEY itself", x.closest(), 23);
        BitBranches y = Checks.with("aaaaaaaa", "aaaaaaa");
        Checks.word(y, "aaaaaaa`");
        C.due("17: the one that shares 71", y.closest(), 1);
    }

    /** "OFF; NONE." */
    private static void off() {
        C.due("18: there is no KEY", new BitBranches().off(), NONE);
        C.due("18: it is a KEY", Checks.with("").off(), NONE);
        C.due("18: at the first BIT", Checks.with("a").off(), 0);
        BitBranches x = Checks.with("aaaaaaaa");
        Checks.word(x, "aaaaaaa`");
        C.due("18: at the last BIT", x.off(), 71);
        x.type(0);
        C.due("18: 8 letters that are a KEY", x.off(), NONE);
        BitBranches y = States.full();
        Checks.word(y, "zz");
        C.due("18: though there is no room for it", y.off(), 7);
    }

    /** "BLIND: what = 0 the KEY (NONE), 1 how many were looked at. OUTSIDE." */
    private static void blind() {
        bounds("19: blind() of no key", 0, 1, OUTSIDE, BitBranches::new, x -> x::blind);
        bounds("19: blind() of one key", 0, 1, OUTSIDE, () -> Checks.with("a"), x -> x::blind);
        bounds("19: blind() among 24", 0, 1, OUTSIDE, States::full, x -> x::blind);
        C.due("19: of no KEY", new BitBranches().blind(0), NONE);
        C.due("19: none is looked at", new BitBranches().blind(1), 0);
        BitBranches one = Checks.with("\u00ff\u00ff");
        C.due("19: one KEY, whatever THE WORD is", one.blind(0), 0);
        C.due("19: none is looked at", one.blind(1), 0);
        BitBranches right = States.withMixed(States.lineToTheRight(0));
        right.type(23);
        C.due("19: all 23 to the RIGHT", right.blind(0), 23);
        C.due("19: 23 are looked at", right.blind(1), 23);
        right.wipe();
        C.due("19: to the LEFT at the top", right.blind(0), 0);
        C.due("19: one is looked at", right.blind(1), 1);
        BitBranches left = States.withMixed(States.lineToTheLeft());
        C.due("19: the empty word has 0 at all", left.blind(0), 0);
        C.due("19: 23 are looked at", left.blind(1), 23);
        left.feed(255);
        C.due("19: to the RIGHT at the top", left.blind(0), 23);
        C.due("19: one is looked at", left.blind(1), 1);
    }

    /** "WAY: the i-th BRANCH; NONE: not so many. UNKNOWN." */
    private static void way() {
        bounds("20: way(k, 0) among 24", 0, 23, UNKNOWN, States::full, x -> k -> x.way(k, 0));
        bounds("20: way(k, 0) of one key", 0, 0, UNKNOWN, () -> Checks.with("a"), x -> k -> x.way(k, 0));
        C.due("20: one KEY has no way", Checks.with("a").way(0, 0), NONE);
        C.due("20: one of two has one BRANCH", Checks.with("a", "b").way(1, 0), 0);
        C.due("20: and no second", Checks.with("a", "b").way(1, 1), NONE);
        BitBranches right = States.withMixed(States.lineToTheRight(0));
        for (int i = 0; i < 23; i++) {
            C.due("20: way(23, " + i + ") of the deepest", right.way(23, i), i);
        }
        for (int i : new int[] {23, -1, LEAST, MOST}) {
            C.due("20: way(23, " + i + "): not so many", right.way(23, i), NONE);
        }
        C.due("20: way(0, 0) of the highest", right.way(0, 0), 0);
        C.due("20: way(0, 1): not so many", right.way(0, 1), NONE);
    }

    /** "The first BIT at which two KEYS are unlike. UNKNOWN." */
    private static void unlike() {
        for (int k = 0; k < 24; k += 23) {
            int with = 23 - k;
            for (int j : new int[] {-1, 24, LEAST, MOST, k}) {
                C.due("21: unlike(" + k + ", " + j + ")", States.full().unlike(k, j), UNKNOWN);
                C.due("21: unlike(" + j + ", " + k + ")", States.full().unlike(j, k), UNKNOWN);
            }
            C.due("21: unlike(" + k + ", " + with + ")", States.full().unlike(k, with), 4);
        }
        C.due("21: at the first BIT", Checks.with("", "aaaaaaaa").unlike(0, 1), 0);
        C.due("21: at the last BIT", Checks.with("aaaaaaaa", "aaaaaaa`").unlike(1, 0), 71);
    }

    /** "BIT i (0 .. 71) of THE WORD. OUTSIDE." */
    private static void bit() {
        bounds("22: bit() of the empty word", 0, 71, OUTSIDE, BitBranches::new, x -> x::bit);
        BitBranches x = new BitBranches();
        Checks.word(x, "\u00ff".repeat(8));
        C.due("22: the first", x.bit(0), 1);
        C.due("22: the last", x.bit(71), 1);
        C.due("22: beyond the last", x.bit(72), OUTSIDE);
        C.due("22: ahead of the first", x.bit(-1), OUTSIDE);
    }

    /** "THE SEED becomes v (0 .. 2147483647): what it was. OUTSIDE." */
    private static void seed() {
        BitBranches x = new BitBranches();
        C.due("23: it was 0 at first", x.seed(MOST), 0);
        C.due("23: -1", x.seed(-1), OUTSIDE);
        C.due("23: the least int", x.seed(LEAST), OUTSIDE);
        C.due("23: it was the most", x.seed(0), MOST);
        C.due("23: it was 0", x.seed(1), 0);
        C.due("23: it was 1", x.seed(2147483646), 1);
        C.due("23: it was one less than the most", x.seed(0), 2147483646);
    }

    /** "IMAGE i becomes what is so (nothing can be undone then): 1. UNKNOWN." */
    private static void keep() {
        bounds("24: keep() of no key", 0, 1, UNKNOWN, BitBranches::new, x -> x::keep);
        bounds("24: keep() of 24", 0, 1, UNKNOWN, States::full, x -> x::keep);
        for (int i = 0; i < 2; i++) {
            BitBranches x = States.full();
            C.due("24: keep(" + i + ")", x.keep(i), 1);
            C.due("24: 24 KEYS stay", x.told(0), 24);
            C.due("24: nothing can be undone", x.told(10), 0);
            C.due("24: undo(1)", x.undo(1), NOT);
            C.due("24: the other is not kept by it", x.goBack(1 - i), NOT);
        }
    }

    /** "What is so becomes IMAGE i (nothing can be undone then): 1. UNKNOWN, NOT: it was not kept." */
    private static void goBack() {
        for (int i = 0; i < 2; i++) {
            C.due("25: goBack(" + i + ") of what was not kept", States.full().goBack(i), NOT);
            BitBranches x = States.full();
            x.seed(MOST);
            x.keep(i);
            x.seed(3);
            x.cut();
            C.due("25: goBack(" + i + ")", x.goBack(i), 1);
            C.due("25: 24 KEYS again", x.told(0), 24);
            C.due("25: 23 BRANCHES again", x.told(1), 23);
            C.due("25: their worths again", x.told(5), 3000);
            C.due("25: nothing can be undone", x.undo(1), NOT);
            C.due("25: the SEED again", x.seed(0), MOST);
            C.due("25: a second time", x.goBack(i), 1);
            C.due("25: goBack(-1)", x.goBack(-1), UNKNOWN);
            C.due("25: goBack(2)", x.goBack(2), UNKNOWN);
            C.due("25: goBack() of the other", x.goBack(1 - i), NOT);
        }
    }
}
