/** The promises one by one: ordinary inputs, the edges that the document names, wrong inputs. */
public final class PromisesTest {
    private static final int NONE = -1, UNKNOWN = -1000000001, OUTSIDE = -1000000002, NOT = -1000000003, FULL = -1000000004;
    private static final int LEAST = Integer.MIN_VALUE, MOST = Integer.MAX_VALUE;

    private static final Checks C = new Checks();

    private PromisesTest() {
    }

    public static void main(String[] args) {
        newObject();
        feed();
        wipe();
        type();
        told();
        key();
        keyWithout();
        branch();
        put();
        take();
        cut();
        raise();
        drift();
        driftByHand();
        driftWhenFull();
        undo();
        undoOfEachDeed();
        below();
        stem();
        beside();
        closest();
        off();
        blind();
        way();
        unlike();
        bit();
        seed();
        keep();
        goBack();
        refusedChangesNothing();
        C.end();
    }

    /** "", a, ab, abc, abd, b are keys 0 .. 5; branches at bits 0, 7, 9, 18, 24. */
    private static BitBranches six() {
        return Checks.with("ab", "abc", "b", "", "a", "abd");
    }

    /** a .. x: as many as there may be, key k worth 10 times k and 10 more. */
    private static BitBranches full() {
        return Checks.with("abcdefghijklmnopqrstuvwx".split(""));
    }

    private static void keysAre(String when, BitBranches x, String want) {
        String got = Checks.keys(x);
        C.holds(when + ": keys are " + want + ", not " + got, got.equals(want));
    }

    private static void newObject() {
        BitBranches x = new BitBranches();
        int[] want = {0, 0, 0, 0, 0, 0, NONE, NONE, 0, NONE, 0};
        for (int what = 0; what < want.length; what++) {
            C.due("1: told(" + what + ") when new", x.told(what), want[what]);
        }
        C.due("1: bit(0) when new", x.bit(0), 0);
        C.due("1: the seed when new", x.seed(5), 0);
        C.due("1: goBack(0) when new", x.goBack(0), NOT);
        C.due("1: key(0, 8) when new", x.key(0, 8), UNKNOWN);
        C.due("1: branch(0, 0) when new", x.branch(0, 0), UNKNOWN);
        BitBranches other = Checks.with("a");
        C.due("1: objects share nothing", x.told(0), 0);
        C.due("1: the other has its own", other.told(0), 1);
    }

    private static void feed() {
        BitBranches x = new BitBranches();
        C.due("2: feed(0)", x.feed(0), 1);
        C.due("2: feed(255)", x.feed(255), 2);
        C.due("2: feed(-1)", x.feed(-1), OUTSIDE);
        C.due("2: feed(256)", x.feed(256), OUTSIDE);
        C.due("2: feed(least)", x.feed(LEAST), OUTSIDE);
        for (int i = 3; i <= 8; i++) {
            C.due("2: feed(7)", x.feed(7), i);
        }
        C.due("2: feed(7), the ninth", x.feed(7), FULL);
        C.due("2: feed(256) when full", x.feed(256), OUTSIDE);
        C.due("2: LETTERS", x.told(2), 8);
        x.put(1);
        int[] want = {0, 255, 7, 7, 7, 7, 7, 7};
        for (int i = 0; i < 8; i++) {
            C.due("2: LETTER " + i, x.key(0, i), want[i]);
        }
    }

    private static void wipe() {
        BitBranches x = six();
        Checks.word(x, "xyz");
        C.due("3: wipe()", x.wipe(), 3);
        C.due("3: wipe() again", x.wipe(), 0);
        C.due("3: LETTERS", x.told(2), 0);
        C.due("3: the empty word is key 0", x.told(9), 0);
        C.due("3: keys stay", x.told(0), 6);
        Checks.word(x, "\u00ff\u00ff");
        x.wipe();
        x.feed(1);
        C.due("3: nothing is left of the word", x.bit(1), 0);
    }

    private static void type() {
        BitBranches x = six();
        C.due("4: type(4)", x.type(4), 3);
        C.due("4: the word is key 4", x.told(9), 4);
        C.due("4: type(0)", x.type(0), 0);
        C.due("4: the word is key 0", x.told(9), 0);
        x.type(5);
        for (int k : new int[] {6, -1, LEAST, MOST}) {
            C.due("4: type(" + k + ")", x.type(k), UNKNOWN);
        }
        C.due("4: the word stays", x.told(9), 5);
        C.due("4: one goes on from it", x.feed(97), 2);
        C.due("4: the key is not changed by it", x.key(5, 8), 1);
    }

    private static void told() {
        BitBranches x = six();
        Checks.word(x, "abca");
        int[] want = {6, 5, 4, 5, 20, 210, 0, 24, 4, NONE, 6};
        for (int what = 0; what < want.length; what++) {
            C.due("5: told(" + what + ")", x.told(what), want[what]);
        }
        C.due("5: told(11)", x.told(11), OUTSIDE);
        C.due("5: told(-1)", x.told(-1), OUTSIDE);
        C.due("5: told(least)", x.told(LEAST), OUTSIDE);
        Checks.word(x, "abc");
        C.due("5: PLACE of a key", x.told(8), 3);
        C.due("5: which key it is", x.told(9), 3);
        BitBranches one = Checks.with("q");
        int[] ones = {1, 0, 0, 0, 0, 10, NONE, NONE, 0, NONE, 1};
        for (int what = 0; what < ones.length; what++) {
            C.due("5: told(" + what + ") of one key", one.told(what), ones[what]);
        }
        BitBranches last = Checks.with("aaaaaaa\0", "aaaaaaa\1");
        C.due("5: the last bit of all may be a branch", last.told(6), 71);
        BitBranches unordered = Checks.with("p\u0080", "p", "\u0080");
        C.due("5: the top bit is not the greatest", unordered.told(6), 1);
        C.due("5: the greatest bit", unordered.told(7), 9);
    }

    private static void key() {
        BitBranches x = six();
        Checks.word(x, "abz");
        int[] want = {97, 98, 99, NONE, NONE, NONE, NONE, NONE, 3, 20, 5, 22, 4};
        for (int what = 0; what < want.length; what++) {
            C.due("6: key(3, " + what + ")", x.key(3, what), want[what]);
        }
        C.due("6: key(0, 0) of the empty word", x.key(0, 0), NONE);
        C.due("6: key(0, 8) of the empty word", x.key(0, 8), 0);
        C.due("6: key(2, 11) of the beginning", x.key(2, 11), 18);
        Checks.word(x, "abc");
        C.due("6: key(3, 11) of the word", x.key(3, 11), 72);
        C.due("6: key(3, 13)", x.key(3, 13), OUTSIDE);
        C.due("6: key(3, -1)", x.key(3, -1), OUTSIDE);
        C.due("6: key(6, 0)", x.key(6, 0), UNKNOWN);
        C.due("6: key(-1, 0)", x.key(-1, 0), UNKNOWN);
        C.due("6: key(6, 13): UNKNOWN first", x.key(6, 13), UNKNOWN);
        C.due("6: key(most, least)", x.key(MOST, LEAST), UNKNOWN);
        BitBranches zero = Checks.with("\0");
        C.due("6: LETTER 0 is a letter", zero.key(0, 0), 0);
        C.due("6: behind it is none", zero.key(0, 1), NONE);
    }

    private static void keyWithout() {
        C.due("6: WITHOUT the only key", Checks.with("a").key(0, 12), 0);
        BitBranches two = Checks.with("a", "b");
        C.due("6: WITHOUT one of two", two.key(1, 12), 0);
        // "" hangs at the top, then a, aa, and aaa with aab deepest, at 4
        BitBranches line = Checks.with("", "a", "aa", "aaa", "aab");
        C.due("6: the greatest DEPTH", line.told(3), 4);
        for (int k = 0; k < 5; k++) {
            C.due("6: WITHOUT " + k + " of a line", line.key(k, 12), 3);
        }
        // a, aa, aaa go 3 deep beside q, r, which go 2 deep
        BitBranches sides = Checks.with("a", "aa", "aaa", "q", "r");
        C.due("6: WITHOUT the first of the deeper side", sides.key(0, 12), 2);
        C.due("6: WITHOUT one of the other side", sides.key(3, 12), 3);
        C.due("6: nothing changes by it", sides.told(0), 5);
        sides.type(3);
        sides.take();
        C.due("6: so it is when it is taken", sides.told(3), 3);
    }

    private static void branch() {
        BitBranches x = six();
        int[][] want = {{0, 0, 6, 1, 0, NONE}, {7, 1, 5, 4, 1, 0}, {9, 2, 4, 1, 1, 1}, {18, 3, 3, 1, 2, 2}, {24, 4, 2, 1, 3, 3}};
        for (int b = 0; b < want.length; b++) {
            for (int what = 0; what < 6; what++) {
                C.due("7: branch(" + b + ", " + what + ")", x.branch(b, what), want[b][what]);
            }
        }
        // a left side of two, then a right side of two: numbered left ahead of right
        BitBranches sides = Checks.with("a", "aa", "\u0080", "\u0081");
        int[][] both = {{1, 0, 4, 2, 0, NONE}, {9, 1, 2, 1, 0, 0}, {8, 1, 2, 1, 2, 0}};
        for (int b = 0; b < both.length; b++) {
            for (int what = 0; what < 6; what++) {
                C.due("7: two sides, branch(" + b + ", " + what + ")", sides.branch(b, what), both[b][what]);
            }
        }
        C.due("7: branch(5, 0)", x.branch(5, 0), UNKNOWN);
        C.due("7: branch(-1, 0)", x.branch(-1, 0), UNKNOWN);
        C.due("7: branch(0, 6)", x.branch(0, 6), OUTSIDE);
        C.due("7: branch(0, -1)", x.branch(0, -1), OUTSIDE);
        C.due("7: branch(5, 6): UNKNOWN first", x.branch(5, 6), UNKNOWN);
        C.due("7: one key has no branch", Checks.with("a").branch(0, 0), UNKNOWN);
    }

    private static void put() {
        BitBranches x = new BitBranches();
        C.due("8: put(0) of the empty word", x.put(0), NONE);
        C.due("8: put(9999) of it again", x.put(9999), 0);
        C.due("8: put(3) of it again", x.put(3), 9999);
        C.due("8: put(-1)", x.put(-1), OUTSIDE);
        C.due("8: put(10000)", x.put(10000), OUTSIDE);
        C.due("8: \"b\"", Checks.put(x, "b", 1), NONE);
        C.due("8: \"a\\0\"", Checks.put(x, "a\0", 2), NONE);
        C.due("8: \"a\"", Checks.put(x, "a", 4), NONE);
        keysAre("8", x, "=3 a=4 a\0=2 b=1");
        BitBranches full = full();
        C.due("8: 24 are held", full.told(0), 24);
        C.due("8: a 25th", Checks.put(full, "y", 1), FULL);
        C.due("8: OUTSIDE ahead of FULL", full.put(10000), OUTSIDE);
        C.due("8: one of the 24", Checks.put(full, "x", 1), 240);
        C.due("8: as many as before", full.told(0), 24);
        C.due("8: and 23 branches", full.told(1), 23);
    }

    private static void take() {
        BitBranches x = six();
        Checks.word(x, "a");
        C.due("9: take()", x.take(), 50);
        C.due("9: take() again", x.take(), NOT);
        C.due("9: the word stays", x.told(2), 1);
        keysAre("9", x, "=40 ab=10 abc=20 abd=60 b=30");
        Checks.word(x, "abca");
        C.due("9: no key, though one is its beginning", x.take(), NOT);
        Checks.word(x, "");
        C.due("9: the empty word", x.take(), 40);
        C.due("9: the top bit then", x.told(6), 7);
        C.due("9: of nothing", new BitBranches().take(), NOT);
        C.due("9: what is refused can't be undone", x.told(10), 8);
    }

    private static void cut() {
        BitBranches x = six();
        Checks.word(x, "ab");
        C.due("10: cut()", x.cut(), 3);
        keysAre("10", x, "=40 a=50 b=30");
        C.due("10: branches then", x.told(1), 2);
        C.due("10: the greatest bit then", x.told(7), 7);
        C.due("10: cut() again", x.cut(), 0);
        C.due("10: a cut of none is a deed too", x.told(10), 8);
        C.due("10: it can be undone", x.undo(1), 3);
        C.due("10: and the cut ahead of it", x.undo(1), 6);
        x.wipe();
        C.due("10: all begin with the empty word", x.cut(), 6);
        C.due("10: none is left", x.told(0), 0);
        C.due("10: of none", x.cut(), 0);
        C.due("10: the first and the last of 24 stay", cutOfMiddle().told(0), 2);
    }

    private static BitBranches cutOfMiddle() {
        BitBranches x = new BitBranches();
        Checks.put(x, "a", 1);
        for (int i = 0; i < 22; i++) {
            Checks.put(x, "b" + (char) i, i);
        }
        Checks.put(x, "c", 2);
        Checks.word(x, "b");
        C.due("10: cut() of 22", x.cut(), 22);
        keysAre("10", x, "a=1 c=2");
        return x;
    }

    private static void raise() {
        BitBranches x = six();
        Checks.word(x, "ab");
        C.due("11: raise(5)", x.raise(5), 3);
        keysAre("11", x, "=40 a=50 ab=15 abc=25 abd=65 b=30");
        C.due("11: raise(9940)", x.raise(9940), 3);
        keysAre("11: 9999 at most", x, "=40 a=50 ab=9955 abc=9965 abd=9999 b=30");
        C.due("11: raise(9999)", x.raise(9999), 3);
        keysAre("11: 9999 at most", x, "=40 a=50 ab=9999 abc=9999 abd=9999 b=30");
        C.due("11: raise(0)", x.raise(0), OUTSIDE);
        C.due("11: raise(-1)", x.raise(-1), OUTSIDE);
        C.due("11: raise(10000)", x.raise(10000), OUTSIDE);
        C.due("11: raise(most)", x.raise(MOST), OUTSIDE);
        C.due("11: three deeds more", x.told(10), 9);
        Checks.word(x, "zz");
        C.due("11: of none", x.raise(1), 0);
        C.due("11: a raise of none is a deed too", x.told(10), 10);
        x.wipe();
        C.due("11: of all", x.raise(1), 6);
        keysAre("11", x, "=41 a=51 ab=9999 abc=9999 abd=9999 b=31");
    }

    private static void drift() {
        BitBranches x = new BitBranches();
        C.due("12: drift(0)", x.drift(0), OUTSIDE);
        C.due("12: drift(21)", x.drift(21), OUTSIDE);
        C.due("12: drift(-1)", x.drift(-1), OUTSIDE);
        C.due("12: the seed stays at what is refused", x.seed(109), 0);
        Checks.word(x, "zz");
        C.due("12: drift(20)", x.drift(20), 12);
        C.due("12: worths", x.told(5), 6845);
        C.due("12: branches", x.told(1), 11);
        C.due("12: the greatest depth", x.told(3), 7);
        C.due("12: each time can be undone", x.told(10), 20);
        C.due("12: the word stays", x.told(2), 2);
        BitBranches byOne = new BitBranches();
        byOne.seed(109);
        for (int i = 0; i < 20; i++) {
            byOne.drift(1);
        }
        keysAre("12: 20 times one", byOne, Checks.keys(x));
        C.due("12: and the seed is the same", byOne.seed(0), x.seed(0));
    }

    /** From seed 0 on: 12345, 1406932606, 654583775, 1449466924, 229283573, 1109335178, 1051550459, 1293799192, 794471793 .. */
    private static void driftByHand() {
        BitBranches x = new BitBranches();
        // 12345 / 65536 = 0: no letters; 1406932606 / 65536 = 21468, by 4: 0, but "" is no key: put, worth 654583775 / 65536 = 9988
        C.due("12: drift(1) from seed 0", x.drift(1), 1);
        keysAre("12: seed 0", x, "=988");
        C.due("12: three draws", x.seed(0), 654583775);
        // "" is a key now: the same draws take it, and there is no third draw
        C.due("12: drift(1) from seed 0 again", x.drift(1), 0);
        C.due("12: two draws", x.seed(0), 1406932606);
        C.due("12: undone", x.undo(1), 1);
        C.due("12: the seed stays when it is undone", x.seed(1449466924), 0);
        // 3498, by 4: 2 letters; 16927, by 3: 1: b; 16045, by 3: 1: b; 19741, by 4: 1: put; 12122, by 1000
        C.due("12: drift(1) from seed 1449466924", x.drift(1), 2);
        keysAre("12: two letters", x, "=988 bb=122");
    }

    private static void driftWhenFull() {
        BitBranches x = Checks.with("d e f g h i j k l m n o p q r s t u v w x y z {".split(" "));
        x.seed(654583775);
        // 22117, by 4: 1 letter; 3498, by 3: 0: a; 16927, by 4: 3: would be put, but there are 24; the worth is drawn
        C.due("12: drift(1) when full", x.drift(1), 24);
        C.due("12: four draws", x.seed(12345), 1051550459);
        C.due("12: it can be undone all the same", x.undo(1), 24);
        C.due("12: no worth has changed", x.told(5), 3000);
        // "" taken and put among 24
        BitBranches y = Checks.with(" e f g h i j k l m n o p q r s t u v w x y z {".split(" "));
        C.due("12: \"\" is the first of 24", y.key(0, 8) * 100 + y.told(0), 24);
        y.seed(0);
        C.due("12: it is taken", y.drift(1), 23);
        y.seed(0);
        C.due("12: and put", y.drift(1), 24);
        C.due("12: with the worth drawn", y.key(0, 9), 988);
    }

    private static void undo() {
        BitBranches x = six();
        C.due("13: undo(7): not so many", x.undo(7), NOT);
        C.due("13: undo(0)", x.undo(0), OUTSIDE);
        C.due("13: undo(21)", x.undo(21), OUTSIDE);
        C.due("13: undo(-1)", x.undo(-1), OUTSIDE);
        C.due("13: undo(2)", x.undo(2), 4);
        keysAre("13", x, "=40 ab=10 abc=20 b=30");
        C.due("13: four are left", x.told(10), 4);
        C.due("13: branches are as they were", x.told(1), 3);
        C.due("13: undo(4)", x.undo(4), 0);
        C.due("13: undo(1)", x.undo(1), NOT);
        BitBranches full = full();
        C.due("13: 20 at most are kept", full.told(10), 20);
        C.due("13: undo(20)", full.undo(20), 4);
        C.due("13: none is left", full.told(10), 0);
        keysAre("13", full, "a=10 b=20 c=30 d=40");
        Checks.put(full, "e", 1);
        C.due("13: one goes on from there", full.undo(1), 4);
    }

    private static void undoOfEachDeed() {
        BitBranches x = six();
        String was = Checks.keys(x);
        Checks.word(x, "ab");
        x.put(77);
        x.undo(1);
        keysAre("13: put() of a key", x, was);
        x.take();
        x.undo(1);
        keysAre("13: take()", x, was);
        x.cut();
        x.undo(1);
        keysAre("13: cut()", x, was);
        x.raise(9999);
        x.undo(1);
        keysAre("13: raise()", x, was);
        x.seed(109);
        x.drift(3);
        x.undo(3);
        keysAre("13: drift()", x, was);
        C.due("13: the word stays", x.told(9), 2);
        x.put(1);
        x.take();
        x.raise(2);
        x.undo(3);
        keysAre("13: three of them", x, was);
    }

    private static void below() {
        BitBranches x = six();
        Checks.word(x, "ab");
        int[] want = {3, 2, 90, 4};
        for (int what = 0; what < want.length; what++) {
            C.due("14: below(" + what + ")", x.below(what), want[what]);
        }
        C.due("14: below(4)", x.below(4), OUTSIDE);
        C.due("14: below(-1)", x.below(-1), OUTSIDE);
        Checks.put(x, "abc", 60);
        Checks.word(x, "ab");
        C.due("14: of like ones the first", x.below(3), 3);
        Checks.word(x, "abe");
        int[] none = {0, NONE, 0, NONE};
        for (int what = 0; what < none.length; what++) {
            C.due("14: below(" + what + ") of none", x.below(what), none[what]);
        }
        x.wipe();
        C.due("14: of all", x.below(0), 6);
        C.due("14: the first of all", x.below(1), 0);
        BitBranches nil = Checks.with("z");
        Checks.put(nil, "z", 0);
        C.due("14: a worth of 0 is the most too", nil.below(3), 0);
        Checks.word(nil, "zzzzzzzz");
        C.due("14: eight letters", nil.below(0), 0);
        nil.put(1);
        C.due("14: eight letters that are a key", nil.below(0), 1);
    }

    private static void stem() {
        BitBranches x = six();
        Checks.word(x, "abcd");
        C.due("15: stem() of abcd", x.stem(), 3);
        Checks.word(x, "abd");
        C.due("15: stem() of a key is it", x.stem(), 4);
        Checks.word(x, "aab");
        C.due("15: stem() of aab", x.stem(), 1);
        Checks.word(x, "c");
        C.due("15: the empty word is a stem of all", x.stem(), 0);
        BitBranches y = Checks.with("ab", "b");
        Checks.word(y, "a");
        C.due("15: longer ones are none", y.stem(), NONE);
        C.due("15: of nothing", new BitBranches().stem(), NONE);
        BitBranches zeros = Checks.with("\0", "\0\0\0");
        Checks.word(zeros, "\0\0");
        C.due("15: of letters 0", zeros.stem(), 0);
    }

    private static void beside() {
        BitBranches x = six();
        Checks.word(x, "abcz");
        C.due("16: the lesser one", x.beside(0), 3);
        C.due("16: the greater one", x.beside(1), 4);
        Checks.word(x, "abc");
        C.due("16: less than a key", x.beside(0), 2);
        C.due("16: greater than a key", x.beside(1), 4);
        Checks.word(x, "b");
        C.due("16: greater than the last", x.beside(1), NONE);
        x.wipe();
        C.due("16: less than the first", x.beside(0), NONE);
        C.due("16: greater than the first", x.beside(1), 1);
        C.due("16: beside(2)", x.beside(2), OUTSIDE);
        C.due("16: beside(-1)", x.beside(-1), OUTSIDE);
        BitBranches none = new BitBranches();
        C.due("16: of nothing, lesser", none.beside(0), NONE);
        C.due("16: of nothing, greater", none.beside(1), NONE);
        C.due("16: of nothing, beside(2)", none.beside(2), OUTSIDE);
    }

    private static void closest() {
        BitBranches x = six();
        Checks.word(x, "abz");
        C.due("17: closest() of abz: abc and abd share 22", x.closest(), 3);
        Checks.word(x, "abd");
        C.due("17: closest() of a key is it", x.closest(), 4);
        Checks.word(x, "\u0080");
        C.due("17: a, ab and on share 1, the empty word 0", x.closest(), 1);
        x.wipe();
        C.due("17: the empty word", x.closest(), 0);
        C.due("17: of nothing", new BitBranches().closest(), NONE);
        BitBranches y = Checks.with("a", "b");
        C.due("17: all share 0: the least", y.closest(), 0);
    }

    private static void off() {
        BitBranches x = six();
        Checks.word(x, "abz");
        C.due("18: off() of abz", x.off(), 22);
        Checks.word(x, "abd");
        C.due("18: off() of a key", x.off(), NONE);
        Checks.word(x, "abdd");
        C.due("18: off() behind a key", x.off(), 27);
        C.due("18: of nothing", new BitBranches().off(), NONE);
        BitBranches y = Checks.with("a", "b");
        C.due("18: off() of the empty word", y.off(), 0);
        Checks.word(x, "abe");
        int bit = x.off();
        x.put(1);
        boolean found = false;
        for (int b = 0; b < x.told(1); b++) {
            found |= x.branch(b, 0) == bit;
        }
        C.holds("18: were it put, it would branch off there", found);
    }

    private static void blind() {
        BitBranches x = six();
        Checks.word(x, "abz");
        C.due("19: blind(0)", x.blind(0), 3);
        C.due("19: blind(1)", x.blind(1), 5);
        // one that looks at branches alone comes to b: only bits 0 and 7 were looked at
        Checks.word(x, "zzz");
        C.due("19: blind(0) of zzz", x.blind(0), 5);
        C.due("19: blind(1) of zzz", x.blind(1), 2);
        // ac goes by bits 0, 7, 9, 18: to ab, though the word has no part of it at 17 and on
        Checks.word(x, "ac");
        C.due("19: blind(0) of ac", x.blind(0), 2);
        C.due("19: blind(1) of ac", x.blind(1), 4);
        x.wipe();
        C.due("19: blind(0) of the empty word", x.blind(0), 0);
        C.due("19: blind(1) of the empty word", x.blind(1), 1);
        C.due("19: blind(2)", x.blind(2), OUTSIDE);
        C.due("19: blind(-1)", x.blind(-1), OUTSIDE);
        BitBranches one = Checks.with("q");
        C.due("19: of one key, which", one.blind(0), 0);
        C.due("19: of one key, looks", one.blind(1), 0);
        BitBranches two = Checks.with("q", "r");
        Checks.word(two, "s");
        C.due("19: of two keys, which", two.blind(0), 1);
        C.due("19: of two keys, looks", two.blind(1), 1);
        C.due("19: of nothing, which", new BitBranches().blind(0), NONE);
        C.due("19: of nothing, looks", new BitBranches().blind(1), 0);
        for (int k = 0; k < 6; k++) {
            x.type(k);
            C.due("19: a key is reached", x.blind(0), k);
            C.due("19: by its DEPTH", x.blind(1), x.key(k, 10));
        }
    }

    private static void way() {
        BitBranches x = Checks.with("a", "aa", "aaa", "q", "r");
        // top 0 at bit 4: a, aa, aaa below 1 (bit 9) and 2 (bit 18); q, r below 3
        int[][] want = {{0, 1}, {0, 1, 2}, {0, 1, 2}, {0, 3}, {0, 3}};
        for (int k = 0; k < want.length; k++) {
            for (int i = 0; i < want[k].length; i++) {
                C.due("20: way(" + k + ", " + i + ")", x.way(k, i), want[k][i]);
            }
            C.due("20: way(" + k + ", ..): not so many", x.way(k, want[k].length), NONE);
        }
        C.due("20: way(0, -1)", x.way(0, -1), NONE);
        C.due("20: way(0, most)", x.way(0, MOST), NONE);
        C.due("20: way(0, least)", x.way(0, LEAST), NONE);
        C.due("20: way(5, 0)", x.way(5, 0), UNKNOWN);
        C.due("20: way(-1, 0)", x.way(-1, 0), UNKNOWN);
        C.due("20: way(5, -1)", x.way(5, -1), UNKNOWN);
        C.due("20: of one key", Checks.with("a").way(0, 0), NONE);
    }

    private static void unlike() {
        BitBranches x = six();
        C.due("21: unlike(0, 1)", x.unlike(0, 1), 0);
        C.due("21: unlike(2, 5)", x.unlike(2, 5), 7);
        C.due("21: unlike(5, 2)", x.unlike(5, 2), 7);
        C.due("21: unlike(1, 4)", x.unlike(1, 4), 9);
        C.due("21: unlike(3, 4)", x.unlike(3, 4), 24);
        C.due("21: one twice", x.unlike(3, 3), UNKNOWN);
        C.due("21: unlike(6, 0)", x.unlike(6, 0), UNKNOWN);
        C.due("21: unlike(0, 6)", x.unlike(0, 6), UNKNOWN);
        C.due("21: unlike(-1, 0)", x.unlike(-1, 0), UNKNOWN);
        C.due("21: unlike(0, -1)", x.unlike(0, -1), UNKNOWN);
        BitBranches eight = Checks.with("aaaaaaaa", "aaaaaaa`", "aaaaaaa");
        C.due("21: the last bit of all", eight.unlike(1, 2), 71);
        C.due("21: eight letters and seven", eight.unlike(0, 1), 63);
        BitBranches zeros = Checks.with("", "\0");
        C.due("21: a letter 0 and none", zeros.unlike(0, 1), 0);
    }

    private static void bit() {
        BitBranches x = new BitBranches();
        Checks.word(x, "\u00a5\1");
        String want = "110100101" + "100000001" + "000000000";
        for (int i = 0; i < want.length(); i++) {
            C.due("22: bit(" + i + ")", x.bit(i), want.charAt(i) - '0');
        }
        C.due("22: bit(71)", x.bit(71), 0);
        C.due("22: bit(72)", x.bit(72), OUTSIDE);
        C.due("22: bit(-1)", x.bit(-1), OUTSIDE);
        Checks.word(x, "aaaaaaa\u00ff");
        for (int i = 63; i < 72; i++) {
            C.due("22: bit(" + i + ") of eight letters", x.bit(i), 1);
        }
    }

    private static void seed() {
        BitBranches x = new BitBranches();
        C.due("23: seed(most)", x.seed(MOST), 0);
        C.due("23: seed(-1)", x.seed(-1), OUTSIDE);
        C.due("23: seed(least)", x.seed(LEAST), OUTSIDE);
        C.due("23: seed(0)", x.seed(0), MOST);
        C.due("23: seed(7)", x.seed(7), 0);
        x.seed(MOST);
        x.drift(20);
        C.holds("23: the seed stays in its bounds", x.seed(0) >= 0);
        C.due("23: it is no deed", x.told(10), 20);
    }

    private static void keep() {
        BitBranches x = six();
        C.due("24: keep(2)", x.keep(2), UNKNOWN);
        C.due("24: keep(-1)", x.keep(-1), UNKNOWN);
        C.due("24: what is refused changes nothing", x.told(10), 6);
        C.due("24: keep(0)", x.keep(0), 1);
        C.due("24: nothing can be undone then", x.told(10), 0);
        C.due("24: undo(1)", x.undo(1), NOT);
        C.due("24: keys stay", x.told(0), 6);
        Checks.put(x, "q", 1);
        C.due("24: deeds since can be undone", x.undo(1), 6);
        Checks.put(x, "q", 1);
        C.due("24: keep(0) anew", x.keep(0), 1);
        x.take();
        x.goBack(0);
        C.due("24: the later one is kept", x.told(0), 7);
        C.due("24: the other image was not kept", x.goBack(1), NOT);
    }

    private static void goBack() {
        BitBranches x = six();
        String was = Checks.keys(x);
        C.due("25: goBack(0): it was not kept", x.goBack(0), NOT);
        C.due("25: goBack(2)", x.goBack(2), UNKNOWN);
        C.due("25: goBack(-1)", x.goBack(-1), UNKNOWN);
        C.due("25: what is refused changes nothing", x.told(10), 6);
        x.seed(77);
        x.keep(1);
        Checks.word(x, "ab");
        x.raise(100);
        x.cut();
        x.seed(78);
        Checks.word(x, "zzz");
        x.put(4);
        C.due("25: keep(0)", x.keep(0), 1);
        x.drift(1);
        C.due("25: goBack(1)", x.goBack(1), 1);
        keysAre("25: keys and worths", x, was);
        C.due("25: branches", x.told(1), 5);
        C.due("25: the greatest depth", x.told(3), 5);
        C.due("25: the seed", x.seed(5), 77);
        C.due("25: the word stays", x.told(2), 3);
        C.due("25: nothing can be undone then", x.told(10), 0);
        C.due("25: undo(1)", x.undo(1), NOT);
        C.due("25: goBack(0)", x.goBack(0), 1);
        keysAre("25: the other image", x, "=40 a=50 b=30 zzz=4");
        C.due("25: its seed", x.seed(5), 78);
        Checks.put(x, "b", 31);
        C.due("25: an image stays as it was", x.goBack(0), 1);
        keysAre("25: the image", x, "=40 a=50 b=30 zzz=4");
        BitBranches none = new BitBranches();
        none.keep(0);
        Checks.put(none, "a", 1);
        C.due("25: an image of nothing", none.goBack(0), 1);
        C.due("25: no keys then", none.told(0), 0);
    }

    private static void refusedChangesNothing() {
        BitBranches x = full();
        Checks.word(x, "zz");
        x.seed(3);
        String was = Checks.keys(x);
        int[] refused = {x.feed(256), x.type(24), x.told(11), x.key(24, 0), x.key(0, 13), x.branch(23, 0), x.branch(0, 6), x.put(-1),
            x.put(0), x.take(), x.raise(0), x.drift(0), x.undo(0), x.undo(21), x.below(4), x.beside(2), x.blind(2), x.way(24, 0),
            x.unlike(0, 0), x.bit(72), x.seed(-1), x.keep(2), x.goBack(2), x.goBack(1)};
        for (int answer : refused) {
            C.holds("refused: " + answer, answer <= UNKNOWN && answer >= FULL);
        }
        keysAre("refused", x, was);
        C.due("refused: the word", x.told(2), 2);
        C.due("refused: what can be undone", x.told(10), 20);
        C.due("refused: the seed", x.seed(0), 3);
    }
}
