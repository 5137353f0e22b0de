import java.util.function.Consumer;

/** "UNDONE: the latest deeds .. since the IMAGE (20 at most are kept)": at 0, at 20, beyond 20, behind an image. */
public final class UndoTest {
    private static final int NONE = -1, UNKNOWN = -1000000001, OUTSIDE = -1000000002, NOT = -1000000003, FULL = -1000000004;

    private static final Checks C = new Checks();

    private UndoTest() {
    }

    public static void main(String[] args) {
        manyDeeds();
        undoneBySteps();
        deedsAfterUndo();
        whatIsADeed();
        whatIsNoDeed();
        eachTimeByDrawsIsADeed();
        drawsAheadOfTheLatest20();
        keysAndWorthsAreAsAhead();
        treeIsAsAhead();
        among24();
        wordAndSeedStay();
        behindKeep();
        behindGoBack();
        imageStaysWhenUndone();
        C.end();
    }

    /** n deeds: the worth of the empty word is raised by 1 each time, from 0 on, so that its worth tells how many stand. */
    private static BitBranches counted(int deeds) {
        BitBranches x = new BitBranches();
        x.put(0);
        x.keep(0);
        more(x, deeds);
        return x;
    }

    private static void more(BitBranches x, int deeds) {
        for (int i = 0; i < deeds; i++) {
            x.raise(1);
        }
    }

    private static void manyDeeds() {
        for (int deeds : new int[] {0, 1, 2, 19, 20, 21, 22, 39, 40, 41, 60, 200}) {
            int kept = Math.min(deeds, 20);
            C.due("told(10) behind " + deeds, counted(deeds).told(10), kept);
            BitBranches all = counted(deeds);
            if (kept > 0) {
                C.due("undo(" + kept + ") behind " + deeds, all.undo(kept), 1);
            }
            C.due("the worth then, behind " + deeds, all.key(0, 9), deeds - kept);
            C.due("undo(1) when all are undone, behind " + deeds, all.undo(1), NOT);
            C.due("told(10) when all are undone, behind " + deeds, all.told(10), 0);
            if (kept < 20) {
                BitBranches x = counted(deeds);
                C.due("undo(" + (kept + 1) + ") behind " + deeds, x.undo(kept + 1), NOT);
                C.due("the worth stays, behind " + deeds, x.key(0, 9), deeds);
            }
            C.due("undo(21) behind " + deeds, counted(deeds).undo(21), OUTSIDE);
            C.due("undo(0) behind " + deeds, counted(deeds).undo(0), OUTSIDE);
        }
    }

    private static void undoneBySteps() {
        BitBranches x = counted(27);
        for (int left = 19; left >= 0; left--) {
            C.due("undo(1), one by one", x.undo(1), 1);
            C.due("the worth, one by one", x.key(0, 9), 7 + left);
            C.due("how many are left", x.told(10), left);
        }
        BitBranches y = counted(27);
        y.undo(7);
        C.due("the worth, seven at once", y.key(0, 9), 20);
        C.due("how many are left", y.told(10), 13);
        C.due("14 are not", y.undo(14), NOT);
        y.undo(13);
        C.due("the worth, all 20", y.key(0, 9), 7);
    }

    private static void deedsAfterUndo() {
        BitBranches x = counted(25);
        x.undo(5);
        more(x, 3);
        C.due("15 and 3", x.told(10), 18);
        C.due("the worth", x.key(0, 9), 23);
        more(x, 4);
        C.due("20 at most again", x.told(10), 20);
        x.undo(20);
        C.due("the worth 20 ahead", x.key(0, 9), 7);
        C.due("an undo can't be undone", x.undo(1), NOT);
        more(x, 1);
        C.due("one goes on", x.told(10), 1);
        x.undo(1);
        C.due("and back", x.key(0, 9), 7);
    }

    private static void deeds(String what, int want, Consumer<BitBranches> calls) {
        BitBranches x = Checks.with("a", "ab");
        x.keep(1);
        Checks.word(x, "a");
        calls.accept(x);
        C.due("how many can be undone: " + what, x.told(10), want);
    }

    /** "the latest deeds (put(), take(), cut(), raise(), each of the times BY DRAWS)" */
    private static void whatIsADeed() {
        deeds("put() of a KEY", 1, x -> x.put(5));
        deeds("put() of what it was worth", 1, x -> x.put(10));
        deeds("put() of a new one", 1, x -> Checks.put(x, "b", 5));
        deeds("take()", 1, BitBranches::take);
        deeds("cut()", 1, BitBranches::cut);
        deeds("raise()", 1, x -> x.raise(1));
        deeds("drift(1)", 1, x -> x.drift(1));
        deeds("drift(20)", 20, x -> x.drift(20));
        // the document tells no deed that is none for want of KEYS: a call that is not refused is one
        deeds("cut() of none", 1, x -> {
            Checks.word(x, "q");
            x.cut();
        });
        deeds("raise() of none", 1, x -> {
            Checks.word(x, "q");
            x.raise(1);
        });
    }

    private static void whatIsNoDeed() {
        deeds("nothing", 0, x -> { });
        deeds("feed()", 0, x -> x.feed(97));
        deeds("wipe()", 0, BitBranches::wipe);
        deeds("type()", 0, x -> x.type(1));
        deeds("seed()", 0, x -> x.seed(4));
        deeds("put() refused", 0, x -> C.due("put(10000)", x.put(10000), OUTSIDE));
        deeds("raise() refused", 0, x -> C.due("raise(0)", x.raise(0), OUTSIDE));
        deeds("drift() refused", 0, x -> C.due("drift(21)", x.drift(21), OUTSIDE));
        deeds("undo() refused", 0, x -> C.due("undo(1)", x.undo(1), NOT));
        deeds("take() refused", 0, x -> {
            Checks.word(x, "q");
            C.due("take()", x.take(), NOT);
        });
        BitBranches full = States.full();
        full.keep(0);
        C.due("put() of a 25th", full.put(1), FULL);
        C.due("how many can be undone: put() of a 25th", full.told(10), 0);
    }

    private static void eachTimeByDrawsIsADeed() {
        for (int back = 1; back <= 20; back++) {
            BitBranches x = new BitBranches();
            x.seed(265);
            x.drift(20);
            x.undo(back);
            BitBranches ahead = new BitBranches();
            ahead.seed(265);
            if (back < 20) {
                ahead.drift(20 - back);
            }
            C.holds(back + " times of 20 undone", Checks.keys(x).equals(Checks.keys(ahead)));
            C.due("how many can be undone then", x.told(10), 20 - back);
        }
    }

    private static void drawsAheadOfTheLatest20() {
        BitBranches x = Checks.with("q", "r");
        x.drift(20);
        C.due("20 draws push the puts out", x.told(10), 20);
        C.due("undo(20)", x.undo(20), 2);
        C.due("the puts stay", x.undo(1), NOT);
        BitBranches y = Checks.with("q", "r");
        y.drift(19);
        C.due("19 draws leave one put", y.told(10), 20);
        C.due("undo(20)", y.undo(20), 1);
    }

    /** "KEYS, worths are as ahead of them" */
    private static void keysAndWorthsAreAsAhead() {
        BitBranches x = new BitBranches();
        Checks.put(x, "a", 9998);
        Checks.put(x, "ab", 0);
        Checks.put(x, "b", 9999);
        String was = Checks.keys(x);
        x.wipe();
        x.raise(9999);
        x.undo(1);
        C.holds("worths that were raised to 9999: " + Checks.keys(x), Checks.keys(x).equals(was));
        x.cut();
        x.undo(1);
        C.holds("KEYS that were cut: " + Checks.keys(x), Checks.keys(x).equals(was));
        x.type(0);
        x.take();
        x.put(5);
        x.cut();
        x.raise(7);
        x.undo(4);
        C.holds("four deeds: " + Checks.keys(x), Checks.keys(x).equals(was));
        x.undo(3);
        C.due("ahead of the first deed there is none", x.told(0), 0);
    }

    private static void treeIsAsAhead() {
        BitBranches x = Checks.with("", "a", "ab", "abc", "b", "\u00ff");
        String was = States.tree(x);
        x.cut();
        C.due("no BRANCH", x.told(1), 0);
        x.undo(1);
        C.holds("the BRANCHES again: " + States.tree(x), States.tree(x).equals(was));
        Checks.word(x, "a\0");
        x.put(1);
        x.undo(1);
        C.holds("the BRANCHES without what was put: " + States.tree(x), States.tree(x).equals(was));
    }

    private static void among24() {
        BitBranches x = States.full();
        String was = Checks.keys(x);
        x.cut();
        C.due("undo(1) of a cut of 24", x.undo(1), 24);
        C.holds("the 24 again", Checks.keys(x).equals(was));
        C.due("a 25th", x.put(1), FULL);
        C.due("undo(1) of the 24th", x.undo(1), 23);
        C.due("there is room again", x.put(1), NONE);
        C.due("and back to 23", x.undo(1), 23);
    }

    /** "THE WORD, THE SEED stay." */
    private static void wordAndSeedStay() {
        BitBranches x = new BitBranches();
        x.drift(4);
        int seed = x.seed(0);
        x.seed(seed);
        Checks.word(x, "\u00ffa\0aaaaa");
        x.undo(4);
        C.due("LETTERS of THE WORD", x.told(2), 8);
        x.put(1);
        C.due("its first LETTER", x.key(0, 0), 255);
        C.due("its last LETTER", x.key(0, 7), 97);
        C.due("THE SEED", x.seed(1), seed);
        BitBranches y = Checks.with("abc");
        y.type(0);
        y.undo(1);
        C.due("THE WORD stays, though the KEY goes", y.told(2), 3);
    }

    /** keep(): "(nothing can be undone then)"; "since the IMAGE" */
    private static void behindKeep() {
        for (int i = 0; i < 2; i++) {
            BitBranches x = counted(20);
            x.keep(i);
            C.due("how many behind keep()", x.told(10), 0);
            C.due("undo(1) behind keep()", x.undo(1), NOT);
            C.due("the worth stays", x.key(0, 9), 20);
            more(x, 3);
            C.due("how many since", x.told(10), 3);
            C.due("undo(4) of 3 since", x.undo(4), NOT);
            x.undo(3);
            C.due("the worth when it was kept", x.key(0, 9), 20);
            C.due("no more", x.undo(1), NOT);
            more(x, 21);
            x.undo(20);
            C.due("20 of 21 since", x.key(0, 9), 21);
            C.due("not the first since", x.undo(1), NOT);
        }
        BitBranches y = counted(5);
        C.due("keep(2)", y.keep(2), UNKNOWN);
        C.due("what is refused leaves them", y.told(10), 5);
    }

    /** goBack(): "(nothing can be undone then)" */
    private static void behindGoBack() {
        BitBranches x = counted(20);
        x.goBack(0);
        C.due("how many behind goBack()", x.told(10), 0);
        C.due("undo(1) behind goBack()", x.undo(1), NOT);
        C.due("the worth of the image", x.key(0, 9), 0);
        more(x, 2);
        C.due("how many since", x.told(10), 2);
        C.due("undo(3) of 2 since", x.undo(3), NOT);
        x.undo(2);
        C.due("the worth of the image again", x.key(0, 9), 0);
        BitBranches y = counted(5);
        C.due("goBack(1), not kept", y.goBack(1), NOT);
        C.due("goBack(2)", y.goBack(2), UNKNOWN);
        C.due("what is refused leaves them", y.told(10), 5);
        y.undo(5);
        C.due("and they can be undone", y.key(0, 9), 0);
    }

    private static void imageStaysWhenUndone() {
        BitBranches x = counted(6);
        x.keep(1);
        more(x, 20);
        x.undo(11);
        x.goBack(1);
        C.due("image 1 is as kept", x.key(0, 9), 6);
        x.goBack(0);
        C.due("image 0 is as kept", x.key(0, 9), 0);
        x.goBack(1);
        C.due("image 1 again", x.key(0, 9), 6);
    }
}
