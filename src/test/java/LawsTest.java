import java.util.Random;

/**
 * What the document says of one call by means of another, on many trees: what is asked must be what then happens. There is no
 * model here, so a fault that the class and the model have in common can be seen, where it sets two calls against one another.
 */
public final class LawsTest {
    private static final int NONE = -1, NOT = -1000000003, FULL = -1000000004;
    private static final int TREES = 150;
    private static final String[] LETTERS = {"ab", "abc", "\0\1", "\0\u00ff", "\0\u007f\u0080\u00ff", "abcdefghijklmnop"};

    private static final Checks C = new Checks();

    private final int tree;
    private final String[] words = new String[26];
    private final String asked;

    private LawsTest(int tree) {
        this.tree = tree;
        Random random = new Random(tree);
        for (int i = 0; i < words.length; i++) {
            words[i] = word(random);
        }
        asked = random.nextInt(4) == 0 ? words[random.nextInt(words.length)] : word(random);
    }

    public static void main(String[] args) {
        for (int tree = 0; tree < TREES && C.wrong() < 20; tree++) {
            LawsTest test = new LawsTest(tree);
            test.offIsWhereItBranchesOff();
            test.withoutIsTheDepthWhenTaken();
            test.belowIsWhatIsCut();
            test.belowIsWhatIsRaised();
            test.placeIsWhereItIsPut();
            test.besideAreItsNeighbours();
            test.closestSharesMost();
            test.stemIsTheLongestBeginning();
            test.branchesSplitTheirKeys();
            test.wayGoesByBranchesAbove();
            test.blindGoesByBits();
            test.branchBitsAreUnlikeBits();
        }
        C.end();
    }

    private String word(Random random) {
        String letters = LETTERS[tree % LETTERS.length];
        StringBuilder word = new StringBuilder();
        for (int left = random.nextInt(tree % 2 == 0 ? 4 : 9); left > 0; left--) {
            word.append(letters.charAt(random.nextInt(letters.length())));
        }
        return word.toString();
    }

    /** From no word to all of them, some of which are alike; THE WORD is the one asked for. */
    private BitBranches made() {
        BitBranches x = new BitBranches();
        for (int i = 0; i < tree % (words.length + 1); i++) {
            Checks.put(x, words[i], i * 37 % 100);
        }
        Checks.word(x, asked);
        return x;
    }

    private void due(String what, long got, long want) {
        C.due("tree " + tree + ": " + what, got, want);
    }

    /** "OFF: the BIT at which THE WORD, were it PUT, would branch off": the lowest BRANCH on its way then. */
    private void offIsWhereItBranchesOff() {
        BitBranches x = made();
        int off = x.off();
        boolean isKey = x.told(9) != NONE;
        boolean first = x.told(0) == 0;
        if (x.put(5) == FULL) {
            return;
        }
        int k = x.told(9);
        int lowest = x.way(k, x.key(k, 10) - 1);
        due("off()", off, isKey || first ? NONE : x.branch(lowest, 0));
    }

    /** "WITHOUT a KEY: the greatest DEPTH, were it TAKEN." */
    private void withoutIsTheDepthWhenTaken() {
        BitBranches x = made();
        for (int k = 0; k < x.told(0); k++) {
            int without = x.key(k, 12);
            x.type(k);
            x.take();
            due("WITHOUT " + k, without, x.told(3));
            x.undo(1);
        }
    }

    /** "CUT: all KEYS that begin with THE WORD go." */
    private void belowIsWhatIsCut() {
        BitBranches x = made();
        int keys = x.told(0), worths = x.told(5), many = x.below(0), theirs = x.below(2);
        due("cut()", x.cut(), many);
        due("KEYS behind cut()", x.told(0), keys - many);
        due("worths behind cut()", x.told(5), worths - theirs);
        due("none is below any more", x.below(0), 0);
        due("it is no KEY any more", x.take(), NOT);
        due("a second cut()", x.cut(), 0);
    }

    /** "RAISED: the worth of all KEYS that begin with THE WORD becomes so much more" */
    private void belowIsWhatIsRaised() {
        BitBranches x = made();
        int worths = x.told(5), many = x.below(0), first = x.below(1), best = x.below(3);
        due("raise()", x.raise(7), many);
        due("worths behind raise()", x.told(5), worths + 7 * many);
        due("the most worth one is as before", x.below(3), best);
        due("the first is as before", x.below(1), first);
        due("the first is the word's place, if there is one", many == 0 ? NONE : x.told(8), first);
    }

    /** "PLACE of THE WORD: how many KEYS are ahead of it in order"; KEYS are "numbered in their order". */
    private void placeIsWhereItIsPut() {
        BitBranches x = made();
        int place = x.told(8);
        if (x.put(5) != FULL) {
            due("PLACE", place, x.told(9));
            due("PLACE of a KEY", x.told(8), place);
            x.take();
            due("PLACE when it is taken", x.told(8), place);
        }
    }

    /** "BESIDE: the greatest KEY that is less than THE WORD, the least that is greater." */
    private void besideAreItsNeighbours() {
        BitBranches x = made();
        int lesser = x.beside(0), greater = x.beside(1), isKey = x.told(9) == NONE ? 0 : 1;
        due("the lesser one is right ahead", lesser, x.told(8) - 1);
        due("the greater one is right behind", greater, x.told(8) + isKey < x.told(0) ? x.told(8) + isKey : NONE);
        if (lesser != NONE) {
            int bit = x.key(lesser, 11);
            due("at the first unlike BIT the lesser one has 0", x.bit(bit), 1);
        }
        if (greater != NONE) {
            int bit = x.key(greater, 11);
            due("at the first unlike BIT the greater one has 1", x.bit(bit), 0);
        }
    }

    /** "CLOSEST: the KEY with the most SHARED; of like ones the least." */
    private void closestSharesMost() {
        BitBranches x = made();
        int closest = x.closest();
        int best = NONE;
        for (int k = 0; k < x.told(0); k++) {
            best = best == NONE || x.key(k, 11) > x.key(best, 11) ? k : best;
        }
        due("closest()", closest, best);
        if (closest != NONE) {
            // one that looks at branches alone may come elsewhere, but never to a KEY that shares less
            due("BLIND shares as much as CLOSEST", x.key(x.blind(0), 11), x.key(closest, 11));
        }
    }

    /** "STEM: the longest KEY with which THE WORD begins": shortened letter by letter, it is the first that is a KEY. */
    private void stemIsTheLongestBeginning() {
        BitBranches x = made();
        int stem = x.stem();
        int first = NONE;
        for (int letters = asked.length(); letters >= 0 && first == NONE; letters--) {
            Checks.word(x, asked.substring(0, letters));
            first = x.told(9);
        }
        due("stem()", stem, first);
    }

    /** "those that have 0 there are its LEFT ones, those that have 1 its RIGHT ones"; "all BITS ahead of it are alike" */
    private void branchesSplitTheirKeys() {
        for (int b = 0; b < made().told(1); b++) {
            BitBranches x = made();
            int bit = x.branch(b, 0), many = x.branch(b, 2), left = x.branch(b, 3), first = x.branch(b, 4);
            for (int k = first; k < first + many; k++) {
                x.type(k);
                due("BRANCH " + b + ": the BIT of KEY " + k, x.bit(bit), k < first + left ? 0 : 1);
                C.holds("tree " + tree + ", BRANCH " + b + ": ahead of its BIT KEY " + k + " is like the first", x.key(first, 11) >= bit);
            }
            C.holds("tree " + tree + ", BRANCH " + b + " has KEYS on both sides", left > 0 && left < many);
        }
    }

    /** "WAY: BRANCHES on the way from the top to a KEY" - each is the one above the next, and bits rise on the way down. */
    private void wayGoesByBranchesAbove() {
        for (int k = 0; k < made().told(0); k++) {
            BitBranches x = made();
            int depth = x.key(k, 10);
            int above = NONE;
            for (int i = 0; i < depth; i++) {
                int b = x.way(k, i);
                due("above BRANCH " + i + " on the way to " + k, x.branch(b, 5), above);
                due("how many are above it", x.branch(b, 1), i);
                C.holds("tree " + tree + ": bits rise on the way to " + k, above == NONE || x.branch(b, 0) > x.branch(above, 0));
                C.holds("tree " + tree + ": KEY " + k + " is below", k >= x.branch(b, 4) && k < x.branch(b, 4) + x.branch(b, 2));
                above = b;
            }
            due("behind the last on the way to " + k, x.way(k, depth), NONE);
        }
    }

    /** "from the top one goes LEFT or RIGHT by THE WORD's BIT of each BRANCH, whatever is ahead, till there is a KEY" */
    private void blindGoesByBits() {
        BitBranches x = made();
        int k = x.blind(0);
        if (k == NONE) {
            due("no KEY", x.told(0), 0);
            return;
        }
        int looks = x.blind(1);
        due("looks", looks, x.key(k, 10));
        for (int i = 0; i < looks; i++) {
            int b = x.way(k, i);
            boolean left = k < x.branch(b, 4) + x.branch(b, 3);
            due("the side at look " + i, x.bit(x.branch(b, 0)), left ? 0 : 1);
        }
    }

    /** Two KEYS part at a BRANCH, and two beside one another at one of their own: so all BRANCHES are met just once. */
    private void branchBitsAreUnlikeBits() {
        BitBranches x = made();
        int parted = 0, branches = 0;
        for (int k = 0; k + 1 < x.told(0); k++) {
            int bit = x.unlike(k, k + 1);
            due("unlike() the other way round", x.unlike(k + 1, k), bit);
            parted += bit;
            branches += x.branch(k, 0);
        }
        due("the BITS of all BRANCHES together", branches, parted);
    }
}
