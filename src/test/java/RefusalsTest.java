import java.util.function.Supplier;
import java.util.function.ToIntFunction;

/** "REFUSALS, of several the first in this order", "What is refused changes nothing", "ASKED, nothing changes by it". */
public final class RefusalsTest {
    private static final int UNKNOWN = -1000000001, OUTSIDE = -1000000002, NOT = -1000000003, FULL = -1000000004;
    private static final int LEAST = Integer.MIN_VALUE, MOST = Integer.MAX_VALUE;

    private static final Checks C = new Checks();

    private RefusalsTest() {
    }

    public static void main(String[] args) {
        theirNumbers();
        unknownAheadOfOutside();
        unknownAheadOfNot();
        outsideAheadOfNot();
        outsideAheadOfFull();
        oneTwiceIsUnknown();
        neverRefused();
        refusedAmong24();
        refusedAmongNone();
        refusedWithEightLetters();
        refusedWithFewDeeds();
        askedChangesNothing();
        C.end();
    }

    private static void refused(String what, Supplier<BitBranches> made, ToIntFunction<BitBranches> call, int want) {
        States.refused(C, what, made, call, want);
    }

    /** "NONE is -1"; "They are far below all that is counted: -1000000001 and on." */
    private static void theirNumbers() {
        C.due("NONE", BitBranches.NONE, -1);
        C.due("UNKNOWN is the first", BitBranches.UNKNOWN, -1000000001);
        C.due("OUTSIDE is the next", BitBranches.OUTSIDE, BitBranches.UNKNOWN - 1);
        C.due("NOT is the next", BitBranches.NOT, BitBranches.OUTSIDE - 1);
        C.due("FULL is the last", BitBranches.FULL, BitBranches.NOT - 1);
    }

    private static void unknownAheadOfOutside() {
        for (int k : new int[] {-1, 24, LEAST, MOST}) {
            for (int what : new int[] {-1, 13, LEAST, MOST}) {
                C.due("key(" + k + ", " + what + ")", States.full().key(k, what), UNKNOWN);
            }
        }
        for (int b : new int[] {-1, 23, LEAST, MOST}) {
            for (int what : new int[] {-1, 6, LEAST, MOST}) {
                C.due("branch(" + b + ", " + what + ")", States.full().branch(b, what), UNKNOWN);
            }
        }
        C.due("key(0, 13) of no key", new BitBranches().key(0, 13), UNKNOWN);
        C.due("branch(0, 6) of no key", new BitBranches().branch(0, 6), UNKNOWN);
        C.due("branch(0, 6) of one key", Checks.with("a").branch(0, 6), UNKNOWN);
        C.due("way(24, -1)", States.full().way(24, -1), UNKNOWN);
    }

    private static void unknownAheadOfNot() {
        for (int i : new int[] {-1, 2, LEAST, MOST}) {
            C.due("goBack(" + i + "), no image kept", new BitBranches().goBack(i), UNKNOWN);
        }
    }

    private static void outsideAheadOfNot() {
        for (int n : new int[] {0, -1, 21, LEAST, MOST}) {
            C.due("undo(" + n + ") of no deed", new BitBranches().undo(n), OUTSIDE);
        }
    }

    private static void outsideAheadOfFull() {
        for (int letter : new int[] {-1, 256, LEAST, MOST}) {
            C.due("feed(" + letter + ") behind 8 letters", eightLetters().feed(letter), OUTSIDE);
        }
        for (int worth : new int[] {-1, 10000, LEAST, MOST}) {
            C.due("put(" + worth + ") of a 25th key", States.full().put(worth), OUTSIDE);
        }
    }

    /** "UNKNOWN (.. one twice, where two are asked)" */
    private static void oneTwiceIsUnknown() {
        for (int k : new int[] {0, 23, 24, -1, LEAST, MOST}) {
            C.due("unlike(" + k + ", " + k + ")", States.full().unlike(k, k), UNKNOWN);
        }
        C.due("unlike(0, 0) of one key", Checks.with("a").unlike(0, 0), UNKNOWN);
        C.due("unlike(0, 0) of no key", new BitBranches().unlike(0, 0), UNKNOWN);
    }

    /** wipe(), cut(), stem(), closest(), off() name no refusal: they answer in the barest and in the fullest object. */
    private static void neverRefused() {
        BitBranches bare = new BitBranches();
        C.due("wipe() of the empty word", bare.wipe(), 0);
        C.due("cut() of no key", bare.cut(), 0);
        C.due("stem() of no key", bare.stem(), -1);
        C.due("closest() of no key", bare.closest(), -1);
        C.due("off() of no key", bare.off(), -1);
        BitBranches fullest = States.full();
        Checks.word(fullest, "xxxxxxxx");
        C.due("stem() of 8 letters among 24", fullest.stem(), 23);
        C.due("closest() of 8 letters among 24", fullest.closest(), 23);
        C.due("off() of 8 letters among 24", fullest.off(), 9);
        C.due("cut() of 8 letters among 24", fullest.cut(), 0);
        C.due("wipe() of 8 letters", fullest.wipe(), 8);
    }

    private static void refusedAmong24() {
        Supplier<BitBranches> rich = States::rich;
        for (int n : new int[] {-1, LEAST, MOST}) {
            refused("feed(" + n + ")", rich, x -> x.feed(n), OUTSIDE);
            refused("type(" + n + ")", rich, x -> x.type(n), UNKNOWN);
            refused("told(" + n + ")", rich, x -> x.told(n), OUTSIDE);
            refused("key(" + n + ", 0)", rich, x -> x.key(n, 0), UNKNOWN);
            refused("key(0, " + n + ")", rich, x -> x.key(0, n), OUTSIDE);
            refused("branch(" + n + ", 0)", rich, x -> x.branch(n, 0), UNKNOWN);
            refused("branch(0, " + n + ")", rich, x -> x.branch(0, n), OUTSIDE);
            refused("put(" + n + ")", rich, x -> x.put(n), OUTSIDE);
            refused("raise(" + n + ")", rich, x -> x.raise(n), OUTSIDE);
            refused("drift(" + n + ")", rich, x -> x.drift(n), OUTSIDE);
            refused("undo(" + n + ")", rich, x -> x.undo(n), OUTSIDE);
            refused("below(" + n + ")", rich, x -> x.below(n), OUTSIDE);
            refused("beside(" + n + ")", rich, x -> x.beside(n), OUTSIDE);
            refused("blind(" + n + ")", rich, x -> x.blind(n), OUTSIDE);
            refused("way(" + n + ", 0)", rich, x -> x.way(n, 0), UNKNOWN);
            refused("unlike(" + n + ", 0)", rich, x -> x.unlike(n, 0), UNKNOWN);
            refused("unlike(0, " + n + ")", rich, x -> x.unlike(0, n), UNKNOWN);
            refused("bit(" + n + ")", rich, x -> x.bit(n), OUTSIDE);
            refused("keep(" + n + ")", rich, x -> x.keep(n), UNKNOWN);
            refused("goBack(" + n + ")", rich, x -> x.goBack(n), UNKNOWN);
        }
        justBeyondAmong24(rich);
    }

    private static void justBeyondAmong24(Supplier<BitBranches> rich) {
        refused("feed(256)", rich, x -> x.feed(256), OUTSIDE);
        refused("type(24)", rich, x -> x.type(24), UNKNOWN);
        refused("told(11)", rich, x -> x.told(11), OUTSIDE);
        refused("key(24, 0)", rich, x -> x.key(24, 0), UNKNOWN);
        refused("key(0, 13)", rich, x -> x.key(0, 13), OUTSIDE);
        refused("branch(23, 0)", rich, x -> x.branch(23, 0), UNKNOWN);
        refused("branch(0, 6)", rich, x -> x.branch(0, 6), OUTSIDE);
        refused("put(10000)", rich, x -> x.put(10000), OUTSIDE);
        refused("put(0) of a 25th key", rich, x -> x.put(0), FULL);
        refused("put(9999) of a 25th key", rich, x -> x.put(9999), FULL);
        refused("take() of no key", rich, BitBranches::take, NOT);
        refused("raise(0)", rich, x -> x.raise(0), OUTSIDE);
        refused("raise(10000)", rich, x -> x.raise(10000), OUTSIDE);
        refused("drift(0)", rich, x -> x.drift(0), OUTSIDE);
        refused("drift(21)", rich, x -> x.drift(21), OUTSIDE);
        refused("undo(0)", rich, x -> x.undo(0), OUTSIDE);
        refused("undo(21)", rich, x -> x.undo(21), OUTSIDE);
        refused("below(4)", rich, x -> x.below(4), OUTSIDE);
        refused("beside(2)", rich, x -> x.beside(2), OUTSIDE);
        refused("blind(2)", rich, x -> x.blind(2), OUTSIDE);
        refused("way(24, 0)", rich, x -> x.way(24, 0), UNKNOWN);
        refused("unlike(24, 0)", rich, x -> x.unlike(24, 0), UNKNOWN);
        refused("unlike(0, 24)", rich, x -> x.unlike(0, 24), UNKNOWN);
        refused("unlike(3, 3)", rich, x -> x.unlike(3, 3), UNKNOWN);
        refused("bit(72)", rich, x -> x.bit(72), OUTSIDE);
        refused("seed(-1)", rich, x -> x.seed(-1), OUTSIDE);
        refused("seed(least)", rich, x -> x.seed(LEAST), OUTSIDE);
        refused("keep(2)", rich, x -> x.keep(2), UNKNOWN);
        refused("goBack(2)", rich, x -> x.goBack(2), UNKNOWN);
        refused("goBack(1), not kept", rich, x -> x.goBack(1), NOT);
    }

    private static void refusedAmongNone() {
        Supplier<BitBranches> bare = BitBranches::new;
        refused("type(0) of no key", bare, x -> x.type(0), UNKNOWN);
        refused("key(0, 0) of no key", bare, x -> x.key(0, 0), UNKNOWN);
        refused("branch(0, 0) of no key", bare, x -> x.branch(0, 0), UNKNOWN);
        refused("way(0, 0) of no key", bare, x -> x.way(0, 0), UNKNOWN);
        refused("unlike(0, 1) of no key", bare, x -> x.unlike(0, 1), UNKNOWN);
        refused("take() of no key", bare, BitBranches::take, NOT);
        refused("undo(1) of no deed", bare, x -> x.undo(1), NOT);
        refused("undo(20) of no deed", bare, x -> x.undo(20), NOT);
        refused("goBack(0), not kept", bare, x -> x.goBack(0), NOT);
        refused("goBack(1), not kept", bare, x -> x.goBack(1), NOT);
        Supplier<BitBranches> one = () -> Checks.with("a");
        refused("type(1) of one key", one, x -> x.type(1), UNKNOWN);
        refused("key(1, 0) of one key", one, x -> x.key(1, 0), UNKNOWN);
        refused("branch(0, 0) of one key", one, x -> x.branch(0, 0), UNKNOWN);
        refused("way(1, 0) of one key", one, x -> x.way(1, 0), UNKNOWN);
        refused("unlike(0, 1) of one key", one, x -> x.unlike(0, 1), UNKNOWN);
        refused("take() of the empty word, \"a\" is the key", one, BitBranches::take, NOT);
    }

    private static BitBranches eightLetters() {
        BitBranches x = Checks.with("a", "abcdefgh");
        x.type(1);
        return x;
    }

    private static void refusedWithEightLetters() {
        for (int letter : new int[] {0, 97, 255}) {
            refused("feed(" + letter + "), the ninth", RefusalsTest::eightLetters, x -> x.feed(letter), FULL);
        }
    }

    private static void refusedWithFewDeeds() {
        for (int deeds : new int[] {1, 19}) {
            Supplier<BitBranches> few = () -> Checks.with("abcdefghijklmnopqrs".substring(0, deeds).split(""));
            refused("undo(" + (deeds + 1) + ") of " + deeds, few, x -> x.undo(deeds + 1), NOT);
            refused("undo(20) of " + deeds, few, x -> x.undo(20), NOT);
        }
    }

    /** The calls that ask, told(), key() and branch() among them, with all that they may be asked. */
    private static void askedChangesNothing() {
        States.changesNothing(C, "told()", States::rich, x -> all(11, x::told));
        States.changesNothing(C, "key()", States::rich, x -> all(13, what -> x.key(23, what) + x.key(0, what)));
        States.changesNothing(C, "branch()", States::rich, x -> all(6, what -> x.branch(22, what) + x.branch(0, what)));
        States.changesNothing(C, "below()", States::rich, x -> all(4, x::below));
        States.changesNothing(C, "stem()", States::rich, BitBranches::stem);
        States.changesNothing(C, "beside()", States::rich, x -> all(2, x::beside));
        States.changesNothing(C, "closest()", States::rich, BitBranches::closest);
        States.changesNothing(C, "off()", States::rich, BitBranches::off);
        States.changesNothing(C, "blind()", States::rich, x -> all(2, x::blind));
        States.changesNothing(C, "way()", States::rich, x -> all(6, i -> x.way(23, i)));
        States.changesNothing(C, "unlike()", States::rich, x -> all(24, j -> x.unlike(5, j)));
        States.changesNothing(C, "bit()", States::rich, x -> all(72, x::bit));
    }

    private static int all(int many, java.util.function.IntUnaryOperator call) {
        int sum = 0;
        for (int i = 0; i < many; i++) {
            sum += call.applyAsInt(i);
        }
        return sum;
    }
}
