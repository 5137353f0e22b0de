import java.util.function.Supplier;
import java.util.function.ToIntFunction;

/** Objects at the document's edges (no key, one key, 24 keys, the deepest trees), and all that can be seen of an object. */
final class States {
    /** Seen by parts, each on an object of its own, so that none is asked more than the 512 times it is made for. */
    private static final int PARTS = 7;

    private States() {
    }

    /** a .. x: 24 keys of one letter, worth 10, 20, .. 240. */
    static BitBranches full() {
        return Checks.with("abcdefghijklmnopqrstuvwx".split(""));
    }

    /** All bits from the first on are 1 in the last key; key k leaves that way to the LEFT at bit first + k. */
    static String[] lineToTheRight(int first) {
        String[] words = new String[24];
        for (int k = 0; k < 23; k++) {
            words[k] = onesUpTo(first + k);
        }
        words[23] = "\u00ff".repeat((first + 22) / 9 + 1);
        return words;
    }

    private static String onesUpTo(int bit) {
        String whole = "\u00ff".repeat(bit / 9);
        return bit % 9 == 0 ? whole : whole + (char) (0xff << (9 - bit % 9) & 0xff);
    }

    /** Key 0 is three letters 0; the others leave it to the RIGHT at bits 1 .. 8, 10 .. 17, 19 .. 25, the last key first. */
    static String[] lineToTheLeft() {
        String[] words = new String[24];
        words[0] = "\0\0\0";
        for (int k = 1; k < 24; k++) {
            int branch = 23 - k;
            words[k] = "\0".repeat(branch / 8) + (char) (128 >> branch % 8);
        }
        return words;
    }

    /** Put in another order than theirs (24 and 7 have no part in common), key k worth k. */
    static BitBranches withMixed(String[] words) {
        BitBranches x = new BitBranches();
        for (int i = 0; i < words.length; i++) {
            int k = i * 7 % words.length;
            Checks.put(x, words[k], k);
        }
        x.wipe();
        return x;
    }

    /** 24 keys, image 0 kept with seed 11, seed 77 now, 20 deeds since the image, THE WORD "zz" that is no key. */
    static BitBranches rich() {
        BitBranches x = full();
        x.seed(11);
        x.keep(0);
        x.seed(77);
        for (int k = 0; k < 20; k++) {
            x.type(k);
            x.put(9000 + k);
        }
        Checks.word(x, "zz");
        return x;
    }

    /** Fails if the call answers another thing, or if anything that can be seen is not as it was. */
    static void refused(Checks checks, String what, Supplier<BitBranches> made, ToIntFunction<BitBranches> call, int want) {
        checks.due(what, call.applyAsInt(made.get()), want);
        changesNothing(checks, what, made, call);
    }

    static void changesNothing(Checks checks, String what, Supplier<BitBranches> made, ToIntFunction<BitBranches> call) {
        for (int part = 0; part < PARTS; part++) {
            BitBranches called = made.get();
            call.applyAsInt(called);
            String was = seen(made.get(), part);
            String is = seen(called, part);
            checks.holds(what + " changes nothing: was " + was + ", is " + is, was.equals(is));
        }
    }

    private static String seen(BitBranches x, int part) {
        return switch (part) {
            case 0 -> word(x);
            case 1 -> Checks.keys(x);
            case 2 -> tree(x);
            case 3 -> seedAndDraws(x);
            case 4 -> undoable(x);
            default -> image(x, part - 5);
        };
    }

    private static String word(BitBranches x) {
        StringBuilder all = new StringBuilder("word ");
        for (int i = 0; i < 72; i++) {
            all.append(x.bit(i));
        }
        for (int what = 0; what < 11; what++) {
            all.append(' ').append(x.told(what));
        }
        return all.toString();
    }

    static String tree(BitBranches x) {
        StringBuilder all = new StringBuilder("tree");
        for (int b = 0; b < x.told(1); b++) {
            all.append(' ');
            for (int what = 0; what < 6; what++) {
                all.append(what == 0 ? "" : ",").append(x.branch(b, what));
            }
        }
        return all.toString();
    }

    private static String seedAndDraws(BitBranches x) {
        int seed = x.seed(5);
        x.seed(seed < 0 ? 0 : seed);
        return "seed " + seed + ", draws " + x.drift(3) + " " + Checks.keys(x);
    }

    private static String undoable(BitBranches x) {
        StringBuilder all = new StringBuilder("undone");
        for (int i = 0; i <= 20; i++) {
            all.append(' ').append(x.undo(1)).append(':').append(x.told(5));
        }
        return all + " at last " + Checks.keys(x);
    }

    private static String image(BitBranches x, int i) {
        return "image " + x.goBack(i) + " " + Checks.keys(x) + " " + x.seed(0);
    }
}
