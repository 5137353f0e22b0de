import java.util.function.ToIntFunction;

/** The sentences under 'Terms' on which the promises stand: words and their bits, order, keys, branches, depth, images. */
public final class TermsTest {
    private static final int NONE = -1, UNKNOWN = -1000000001, NOT = -1000000003, FULL = -1000000004;
    private static final int MOST = Integer.MAX_VALUE;

    private static final Checks C = new Checks();

    private TermsTest() {
    }

    public static void main(String[] args) {
        numbersFrom0();
        bitsOfNoLetter();
        bitsOfEightLetters();
        bitOfALetter0();
        orderOfLetters();
        orderOfBeginnings();
        typedLetterByLetter();
        eachOnce();
        manyKeys();
        noBranchBelowTwo();
        sidesOfOneAndMore();
        splitIsTheLeastBit();
        deepestToTheRight();
        deepestToTheLeft();
        deepestAtTheEnd();
        depthOfOneAndTwo();
        without();
        withoutAmong24();
        taken();
        belowIsBeginsWith();
        mostWorthOfThese();
        closestOfLikeOnes();
        blindWhateverIsAhead();
        blindOfEachKey();
        whatStaysBesideTheKeys();
        imagesKeepKeysWorthsSeed();
        imagesOfNoneAnd24();
        imageIsKeptAnew();
        C.end();
    }

    private static void keysAre(String when, BitBranches x, String want) {
        String got = Checks.keys(x);
        C.holds(when + ": keys are " + want + ", not " + got, got.equals(want));
    }

    private static void bitsAre(String when, BitBranches x, String want) {
        for (int i = 0; i < 72; i++) {
            C.due(when + ": BIT " + i, x.bit(i), want.charAt(i) - '0');
        }
    }

    /** "What has a number has it from 0 on." */
    private static void numbersFrom0() {
        BitBranches x = Checks.with("b", "a");
        C.due("KEY 0 is the first", x.key(0, 0), 'a');
        C.due("KEY 1 is the second", x.key(1, 0), 'b');
        C.due("there is no KEY 2", x.key(2, 0), UNKNOWN);
        C.due("BRANCH 0 is the top", x.branch(0, 1), 0);
        C.due("there is no BRANCH 1", x.branch(1, 1), UNKNOWN);
        C.due("the way's BRANCH 0", x.way(0, 0), 0);
        C.due("IMAGE 0", x.keep(0), 1);
        C.due("IMAGE 1", x.keep(1), 1);
        C.due("there is no IMAGE 2", x.keep(2), UNKNOWN);
    }

    /** "BIT 9 times i is 1, if it has a LETTER i, else 0; the eight behind it .. (0, if there is none)." */
    private static void bitsOfNoLetter() {
        BitBranches x = new BitBranches();
        bitsAre("the empty word", x, "0".repeat(72));
        Checks.word(x, "\u00ff\u00ff");
        bitsAre("two letters 255", x, "1".repeat(18) + "0".repeat(54));
    }

    private static void bitsOfEightLetters() {
        BitBranches x = new BitBranches();
        Checks.word(x, "\u0000\u0001\u0002\u0055\u007f\u0080\u00aa\u00ff");
        bitsAre("8 letters", x, "100000000" + "100000001" + "100000010" + "101010101" + "101111111" + "110000000" + "110101010" + "111111111");
    }

    private static void bitOfALetter0() {
        for (int letters = 1; letters <= 8; letters++) {
            BitBranches x = new BitBranches();
            Checks.word(x, "\0".repeat(letters));
            bitsAre(letters + " letters 0", x, "100000000".repeat(letters) + "000000000".repeat(8 - letters));
        }
    }

    /** "WORDS are in order as their first unlike BITS are" */
    private static void orderOfLetters() {
        BitBranches x = Checks.with("\u00ff", "\u0080", "\u007f", "\u0001", "\u0000", "\u007f\u00ff", "\u0000\u00ff");
        keysAre("letters 0 .. 255", x, "\0=50 \0\u00ff=70 \1=40 \u007f=30 \u007f\u00ff=60 \u0080=20 \u00ff=10");
        BitBranches last = Checks.with("aaaaaaa\u0080", "aaaaaaa\u007f", "aaaaaaa\u00ff", "aaaaaaa\0");
        keysAre("the last letter of 8", last, "aaaaaaa\0=40 aaaaaaa\u007f=20 aaaaaaa\u0080=10 aaaaaaa\u00ff=30");
        BitBranches first = Checks.with("\u0080aaaaaaa", "\u007f\u00ff\u00ff\u00ff\u00ff\u00ff\u00ff\u00ff");
        C.due("the first letter ahead of the rest", first.key(0, 0), 127);
    }

    /** "(.. the beginning of another ahead of it)" */
    private static void orderOfBeginnings() {
        BitBranches x = Checks.with("\0\0\0\0\0\0\0\0", "\0\0\0\0\0\0\0", "\0\0", "\0", "");
        for (int k = 0; k < 5; k++) {
            C.due("beginnings ahead, letters 0", x.key(k, 8), new int[] {0, 1, 2, 7, 8}[k]);
        }
        BitBranches y = Checks.with("ab", "a\u00ff", "a", "a\0");
        keysAre("a beginning ahead of all that begin with it", y, "a=30 a\0=40 ab=10 a\u00ff=20");
    }

    /** "THE WORD is typed, LETTER by LETTER." */
    private static void typedLetterByLetter() {
        BitBranches x = new BitBranches();
        for (int i = 0; i < 8; i++) {
            x.feed(255 - i);
            x.put(i);
        }
        C.due("each further letter makes another WORD", x.told(0), 8);
        for (int i = 0; i < 8; i++) {
            C.due("LETTER " + i, x.key(7, i), 255 - i);
        }
    }

    /** "WORDS, each once, worth 0 .. 9999 each, numbered in their order" */
    private static void eachOnce() {
        BitBranches x = Checks.with("b", "", "a", "b", "", "a");
        keysAre("each once", x, "=50 a=60 b=40");
        C.due("three KEYS", x.told(0), 3);
        C.due("two BRANCHES", x.told(1), 2);
    }

    /** "THE TREE holds 24 KEYS at most"; "(So n KEYS have n less 1 BRANCHES.)" */
    private static void manyKeys() {
        BitBranches x = new BitBranches();
        C.due("no KEY has no BRANCH", x.told(1), 0);
        for (int n = 1; n <= 24; n++) {
            Checks.put(x, "" + (char) (n * 37 % 256) + (char) n, n);
            C.due(n + " KEYS", x.told(0), n);
            C.due("their BRANCHES", x.told(1), n - 1);
            C.due("no BRANCH more", x.branch(n - 1, 0), UNKNOWN);
        }
        C.due("no 25th", Checks.put(x, "zz", 1), FULL);
        C.due("24 KEYS still", x.told(0), 24);
        C.due("23 BRANCHES still", x.told(1), 23);
    }

    /** "of all KEYS, if there are two or more, the top BRANCH is at their SPLIT" */
    private static void noBranchBelowTwo() {
        BitBranches x = new BitBranches();
        C.due("no KEY: no top", x.told(6), NONE);
        C.due("no KEY: no greatest", x.told(7), NONE);
        Checks.put(x, "aaaaaaaa", 1);
        C.due("one KEY: no top", x.told(6), NONE);
        C.due("one KEY: no greatest", x.told(7), NONE);
        Checks.put(x, "aaaaaaac", 1);
        C.due("two KEYS: the top", x.told(6), 70);
        C.due("two KEYS: the greatest", x.told(7), 70);
        x.take();
        C.due("one KEY again: no top", x.told(6), NONE);
    }

    /** "each side that has two KEYS or more has a BRANCH likewise"; numbered "each, then all of its LEFT side, then .. RIGHT" */
    private static void sidesOfOneAndMore() {
        BitBranches leftOne = Checks.with("", "a", "b");
        C.holds("one LEFT, two RIGHT: " + States.tree(leftOne), States.tree(leftOne).equals("tree 0,0,3,1,0,-1 7,1,2,1,1,0"));
        BitBranches rightOne = Checks.with("", "\0", "\u00ff", "\1");
        C.holds("two LEFT, one RIGHT: " + States.tree(rightOne),
            States.tree(rightOne).equals("tree 0,0,4,1,0,-1 1,1,3,2,1,0 8,2,2,1,1,1"));
        BitBranches both = Checks.with("\0", "\1", "\2", "\3", "\u0080", "\u0081", "\u0082", "\u0083");
        C.holds("four LEFT, four RIGHT: " + States.tree(both), States.tree(both).equals(
            "tree 1,0,8,4,0,-1 7,1,4,2,0,0 8,2,2,1,0,1 8,2,2,1,2,1 7,1,4,2,4,0 8,2,2,1,4,4 8,2,2,1,6,4"));
    }

    /** "the SPLIT is the least BIT at which any two of them are unlike" */
    private static void splitIsTheLeastBit() {
        // the first two are unlike at 17 alone, the last is unlike both at 8
        BitBranches x = Checks.with("ab", "ac", "`z");
        C.due("the top is the least of all", x.told(6), 8);
        C.due("the BRANCH below it", x.branch(1, 0), 17);
        C.due("the greatest is not the last put", x.told(7), 17);
        // LEFT and RIGHT sides have BITS of their own: the LEFT ones may be greater
        BitBranches y = Checks.with("a", "aaaaaaaa", "\u00ff", "\u0080");
        C.holds("greater BITS LEFT than RIGHT: " + States.tree(y), States.tree(y).equals("tree 1,0,4,2,0,-1 9,1,2,1,0,0 2,1,2,1,2,0"));
    }

    private static void deepestToTheRight() {
        BitBranches x = States.withMixed(States.lineToTheRight(0));
        for (int b = 0; b < 23; b++) {
            int[] want = {b, b, 24 - b, 1, b, b - 1};
            for (int what = 0; what < 6; what++) {
                C.due("to the RIGHT: branch(" + b + ", " + what + ")", x.branch(b, what), want[what]);
            }
        }
        for (int k = 0; k < 24; k++) {
            C.due("to the RIGHT: DEPTH of " + k, x.key(k, 10), Math.min(23, k + 1));
        }
        C.due("to the RIGHT: the greatest DEPTH", x.told(3), 23);
        C.due("to the RIGHT: DEPTHS together", x.told(4), 299);
    }

    private static void deepestToTheLeft() {
        BitBranches x = States.withMixed(States.lineToTheLeft());
        for (int b = 0; b < 23; b++) {
            int[] want = {b + 1 + b / 8, b, 24 - b, 23 - b, 0, b - 1};
            for (int what = 0; what < 6; what++) {
                C.due("to the LEFT: branch(" + b + ", " + what + ")", x.branch(b, what), want[what]);
            }
        }
        for (int k = 0; k < 24; k++) {
            C.due("to the LEFT: DEPTH of " + k, x.key(k, 10), Math.min(23, 24 - k));
        }
        C.due("to the LEFT: DEPTHS together", x.told(4), 299);
    }

    /** The last BIT of all, 71, tells KEYS of 8 letters apart. */
    private static void deepestAtTheEnd() {
        BitBranches x = States.withMixed(States.lineToTheRight(49));
        C.due("the top", x.told(6), 49);
        C.due("the greatest", x.told(7), 71);
        for (int b = 0; b < 23; b++) {
            C.due("the BIT of " + b, x.branch(b, 0), 49 + b);
        }
        C.due("the last KEY has 8 letters", x.key(23, 8), 8);
        C.due("the one ahead of it", x.key(22, 7), 254);
    }

    /** "DEPTH of a KEY: how many BRANCHES there are on the way to it." */
    private static void depthOfOneAndTwo() {
        BitBranches one = Checks.with("aaaaaaaa");
        C.due("DEPTH of one", one.key(0, 10), 0);
        C.due("the greatest", one.told(3), 0);
        C.due("together", one.told(4), 0);
        BitBranches two = Checks.with("aaaaaaaa", "");
        C.due("DEPTH of the first of two", two.key(0, 10), 1);
        C.due("DEPTH of the second of two", two.key(1, 10), 1);
        C.due("the greatest", two.told(3), 1);
        C.due("together", two.told(4), 2);
    }

    /** "WITHOUT a KEY: the greatest DEPTH, were it TAKEN." */
    private static void without() {
        C.due("WITHOUT the only one", Checks.with("a").key(0, 12), 0);
        C.due("WITHOUT the first of two", Checks.with("a", "b").key(0, 12), 0);
        C.due("WITHOUT the second of two", Checks.with("a", "b").key(1, 12), 0);
        BitBranches three = Checks.with("", "a", "b");
        for (int k = 0; k < 3; k++) {
            C.due("WITHOUT " + k + " of three", three.key(k, 12), 1);
        }
        // two sides of like DEPTH: without any one the other side is as deep as ever
        BitBranches four = Checks.with("\0", "\1", "\u0080", "\u0081");
        for (int k = 0; k < 4; k++) {
            C.due("WITHOUT " + k + " of two sides", four.key(k, 12), 2);
        }
        // 0, 1, 2, 3 go 3 deep on the LEFT; 128 hangs at the top: WITHOUT it all rise
        BitBranches five = Checks.with("\0", "\1", "\2", "\3", "\u0080");
        int[] want = {3, 3, 3, 3, 2};
        for (int k = 0; k < 5; k++) {
            C.due("WITHOUT " + k + " of five", five.key(k, 12), want[k]);
        }
    }

    private static void withoutAmong24() {
        BitBranches right = States.withMixed(States.lineToTheRight(0));
        BitBranches left = States.withMixed(States.lineToTheLeft());
        for (int k = 0; k < 24; k++) {
            C.due("WITHOUT " + k + " of the deepest to the RIGHT", right.key(k, 12), 22);
            C.due("WITHOUT " + k + " of the deepest to the LEFT", left.key(k, 12), 22);
        }
        for (int k = 0; k < 24; k++) {
            BitBranches x = States.full();
            int without = x.key(k, 12);
            x.type(k);
            x.take();
            C.due("WITHOUT " + k + " is as deep as when it is TAKEN", without, x.told(3));
        }
    }

    /** "TAKEN: a KEY goes." The first, the last, one among them; the others stay, with their worths. */
    private static void taken() {
        String[] left = {"a=20 b=30", "=10 b=30", "=10 a=20"};
        for (int k = 0; k < 3; k++) {
            BitBranches x = Checks.with("", "a", "b");
            x.type(k);
            x.take();
            keysAre("KEY " + k + " goes", x, left[k]);
            C.due("THE WORD stays", x.told(2), k == 0 ? 0 : 1);
            C.due("one BRANCH", x.told(1), 1);
        }
    }

    /** "BELOW: KEYS that begin with THE WORD" - a letter 0 is a letter, and the end of a word is not one. */
    private static void belowIsBeginsWith() {
        BitBranches x = Checks.with("", "a", "a\0", "a\0\0", "a\u00ff", "b");
        String[] words = {"", "a", "a\0", "a\0\0", "a\0\0\0", "a\u00ff", "\u00ff"};
        int[][] want = {{6, 0, 210, 5}, {4, 1, 140, 4}, {2, 2, 70, 3}, {1, 3, 40, 3}, {0, NONE, 0, NONE}, {1, 4, 50, 4}, {0, NONE, 0, NONE}};
        for (int i = 0; i < words.length; i++) {
            Checks.word(x, words[i]);
            for (int what = 0; what < 4; what++) {
                C.due("BELOW of word " + i + ", " + what, x.below(what), want[i][what]);
            }
        }
    }

    /** "the most worth one (of like ones the first)": neither a KEY ahead of them nor one behind them, though worth more */
    private static void mostWorthOfThese() {
        BitBranches x = new BitBranches();
        String[] words = {"a", "b", "ba", "bb", "bc", "c"};
        int[] worths = {9999, 3, 5, 5, 4, 9999};
        for (int k = 0; k < words.length; k++) {
            Checks.put(x, words[k], worths[k]);
        }
        Checks.word(x, "b");
        C.due("the first of like ones", x.below(3), 2);
        C.due("their worths alone", x.below(2), 17);
        x.put(5);
        C.due("the first, when it is alike", x.below(3), 1);
        Checks.put(x, "bc", 6);
        Checks.word(x, "b");
        C.due("the last of them", x.below(3), 4);
    }

    /** "CLOSEST: the KEY with the most SHARED; of like ones the least." */
    private static void closestOfLikeOnes() {
        BitBranches x = Checks.with("aa", "ab", "ac", "ad");
        Checks.word(x, "a");
        C.due("all share 9", x.closest(), 0);
        Checks.word(x, "ag");
        C.due("ad shares 16, the others 15", x.closest(), 3);
        Checks.word(x, "ac\0");
        C.due("the one that is its beginning", x.closest(), 2);
        BitBranches y = Checks.with("\u0080", "\u0081", "\0");
        Checks.word(y, "\u00c0");
        C.due("of like ones the least, though a lesser KEY is less alike", y.closest(), 1);
    }

    /** "one goes LEFT or RIGHT by THE WORD's BIT of each BRANCH, whatever is ahead" */
    private static void blindWhateverIsAhead() {
        BitBranches x = Checks.with("aaaaaaaa", "aaaaaaa`");
        Checks.word(x, "zzzzzzz\1");
        C.due("the last BIT alone is looked at: 1", x.blind(0), 1);
        Checks.word(x, "zzzzzzz\2");
        C.due("the last BIT alone is looked at: 0", x.blind(0), 0);
        x.wipe();
        C.due("a BIT of a LETTER that is not there is 0", x.blind(0), 0);
        C.due("one was looked at", x.blind(1), 1);
        Checks.word(x, "aaaaaaaa");
        C.due("CLOSEST and BLIND of a KEY are the KEY", x.blind(0), x.closest());
    }

    /** "till there is a KEY: which; how many BRANCHES were looked at" - a KEY comes to itself, over all BRANCHES on its WAY */
    private static void blindOfEachKey() {
        BitBranches[] trees = {States.full(), States.withMixed(States.lineToTheRight(0)), States.withMixed(States.lineToTheLeft()),
            Checks.with("\0", "\1", "\2", "\3", "\u0080", "\u0081", "\u0082", "\u0083")};
        for (int t = 0; t < trees.length; t++) {
            BitBranches x = trees[t];
            for (int k = 0; k < x.told(0); k++) {
                x.type(k);
                C.due("tree " + t + ": BLIND of KEY " + k, x.blind(0), k);
                C.due("tree " + t + ": looks of KEY " + k, x.blind(1), x.key(k, 10));
            }
        }
    }

    /** THE WORD becomes another by feed(), wipe(), type() alone, THE SEED by seed(), drift(), goBack() alone. */
    private static void whatStaysBesideTheKeys() {
        wordAndSeedStay("put()", true, x -> x.put(3));
        wordAndSeedStay("take()", true, BitBranches::take);
        wordAndSeedStay("cut()", true, BitBranches::cut);
        wordAndSeedStay("raise()", true, x -> x.raise(3));
        wordAndSeedStay("undo()", true, x -> x.undo(2));
        wordAndSeedStay("keep()", true, x -> x.keep(1));
        wordAndSeedStay("drift()", false, x -> x.drift(5));
        wordAndSeedStay("goBack()", false, x -> x.goBack(0));
        wordAndSeedStay("seed()", false, x -> x.seed(9));
    }

    private static void wordAndSeedStay(String what, boolean seedToo, ToIntFunction<BitBranches> call) {
        BitBranches x = new BitBranches();
        x.keep(0);
        Checks.put(x, "a", 1);
        Checks.put(x, "a\u0080cdefg\1", 2);
        x.seed(1234);
        C.holds(what + " is not refused", call.applyAsInt(x) >= NONE);
        C.due(what + ": LETTERS of THE WORD stay", x.told(2), 8);
        C.due(what + ": its BITS stay", x.bit(10) * 10 + x.bit(71), 11);
        if (seedToo) {
            C.due(what + ": THE SEED stays", x.seed(0), 1234);
        }
        x.goBack(0);
        C.due(what + ": IMAGE 0 stays", x.told(0), 0);
        C.due(what + ": THE SEED of IMAGE 0 stays", x.seed(0), 0);
    }

    /** "IMAGES 0, 1 keep KEYS, worths, THE SEED." */
    private static void imagesKeepKeysWorthsSeed() {
        BitBranches x = Checks.with("a", "b");
        x.seed(0);
        x.keep(0);
        Checks.put(x, "a", 9999);
        Checks.put(x, "", 0);
        x.seed(MOST);
        x.keep(1);
        x.wipe();
        x.cut();
        x.seed(5);
        Checks.word(x, "cccccccc");
        x.goBack(0);
        keysAre("image 0", x, "a=10 b=20");
        C.due("THE SEED of image 0", x.seed(6), 0);
        C.due("THE WORD is not kept", x.told(2), 8);
        x.goBack(1);
        keysAre("image 1", x, "=0 a=9999 b=20");
        C.due("THE SEED of image 1", x.seed(6), MOST);
        C.due("BRANCHES of image 1", x.told(1), 2);
        x.goBack(0);
        C.due("BRANCHES of image 0", x.told(1), 1);
    }

    private static void imagesOfNoneAnd24() {
        BitBranches x = new BitBranches();
        x.keep(1);
        for (int i = 0; i < 24; i++) {
            Checks.put(x, "" + (char) i, i);
        }
        x.keep(0);
        x.goBack(1);
        C.due("an image of no KEY", x.told(0), 0);
        C.due("no BRANCH", x.told(1), 0);
        C.due("it has room", Checks.put(x, "a", 1), NONE);
        x.goBack(0);
        C.due("an image of 24 KEYS", x.told(0), 24);
        C.due("23 BRANCHES", x.told(1), 23);
        C.due("it has no room", x.put(1), FULL);
        C.due("worths", x.told(5), 276);
    }

    /** "IMAGE i becomes what is so": the later takes the place of the earlier, and what is done since does not reach it. */
    private static void imageIsKeptAnew() {
        BitBranches x = Checks.with("a");
        x.keep(0);
        C.due("it was not kept", x.goBack(1), NOT);
        Checks.put(x, "b", 7);
        x.keep(0);
        Checks.put(x, "b", 8);
        Checks.put(x, "c", 9);
        x.goBack(0);
        keysAre("the later one", x, "a=10 b=7");
        x.wipe();
        x.raise(3);
        x.goBack(0);
        keysAre("as it was kept", x, "a=10 b=7");
    }
}
