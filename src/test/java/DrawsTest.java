import java.math.BigInteger;

/** "BY DRAWS", case by case; what each seed draws is worked out here by numbers that never wrap around. */
public final class DrawsTest {
    private static final BigInteger TIMES = BigInteger.valueOf(1103515245), MORE = BigInteger.valueOf(12345), BY = BigInteger.TWO.pow(31);
    private static final int MOST = Integer.MAX_VALUE;

    private static final Checks C = new Checks();

    private DrawsTest() {
    }

    public static void main(String[] args) {
        seedWrapsAround();
        fewestLetters();
        mostLetters();
        on0AKeyIsTaken();
        on0NoKeyIsPut();
        elseAKeyIsPut();
        elseNoKeyIsPut();
        among24NoKeyIsNotPut();
        among24AKeyIsPut();
        among24AKeyIsTaken();
        among23ItIsThe24th();
        leastAndMostWorth();
        theWordStays();
        manyTimes();
        C.end();
    }

    /** What one time draws from a seed on: a word, the draw of 4, the worth, the seed ahead of the worth's draw and behind it. */
    private record Drawn(String word, int of4, int worth, int seedAhead, int seedBehind) {
        static Drawn from(int seed) {
            BigInteger[] at = {BigInteger.valueOf(seed)};
            int letters = next(at, 4);
            StringBuilder word = new StringBuilder();
            for (int i = 0; i < letters; i++) {
                word.append((char) (97 + next(at, 3)));
            }
            int of4 = next(at, 4);
            int ahead = at[0].intValueExact();
            int worth = next(at, 1000);
            return new Drawn(word.toString(), of4, worth, ahead, at[0].intValueExact());
        }

        private static int next(BigInteger[] at, int of) {
            at[0] = at[0].multiply(TIMES).add(MORE).mod(BY);
            return at[0].shiftRight(16).mod(BigInteger.valueOf(of)).intValueExact();
        }
    }

    /** One time from a seed on; the seed is looked up for what it draws, so that a case is what its name says. */
    private static void once(String what, BitBranches x, int seed, String word, String keys, boolean worthDrawn) {
        Drawn drawn = Drawn.from(seed);
        C.holds(what + ": seed " + seed + " draws " + word + ", not " + drawn.word + " " + drawn.of4, word.equals(drawn.word + " " + drawn.of4));
        x.seed(seed);
        int answer = x.drift(1);
        C.due(what + ": KEYS", answer, x.told(0));
        String got = Checks.keys(x);
        C.holds(what + ": keys are " + keys + ", not " + got, got.equals(keys));
        C.due(what + ": THE SEED", x.seed(0), worthDrawn ? drawn.seedBehind : drawn.seedAhead);
    }

    /** "each DRAW it becomes it times 1103515245 and 12345, left over by 2 to the 31" */
    private static void seedWrapsAround() {
        for (int seed : new int[] {0, 1, 1073741823, 1073741824, 2147483646, MOST}) {
            BitBranches x = new BitBranches();
            x.seed(seed);
            x.drift(1);
            Drawn drawn = Drawn.from(seed);
            String want = drawn.word + "=" + drawn.worth;
            C.holds("from " + seed + ": " + want + ", not " + Checks.keys(x), Checks.keys(x).equals(want));
            C.due("from " + seed + ": THE SEED", x.seed(0), drawn.seedBehind);
        }
        C.due("THE SEED is 0 at first", new BitBranches().seed(0), 0);
    }

    /** "a DRAW of 4: a WORD of as many LETTERS": 0 at least, 3 at most, "each a DRAW of 3 and 97 more" */
    private static void fewestLetters() {
        once("no letter", new BitBranches(), 2, " 1", "=239", true);
        once("one letter", new BitBranches(), 84, "b 2", "b=806", true);
    }

    private static void mostLetters() {
        once("three letters, the greatest", new BitBranches(), 29, "ccc 3", "ccc=917", true);
        once("three letters, each another", new BitBranches(), 265, "abc 2", "abc=406", true);
        once("three letters, the least", new BitBranches(), 267, "aaa 0", "aaa=574", true);
    }

    /** "a DRAW of 4: on 0, if it is a KEY, it is TAKEN" - and no worth is drawn */
    private static void on0AKeyIsTaken() {
        once("the only KEY", Checks.with("aaa"), 267, "aaa 0", "", false);
        once("one of three", Checks.with("a", "aaa", "b"), 267, "aaa 0", "a=10 b=30", false);
        once("the empty word", Checks.with("", "a"), 0, " 0", "a=20", false);
    }

    /** "else it is PUT with a DRAW of 1000" */
    private static void on0NoKeyIsPut() {
        once("on 0, no KEY", Checks.with("aa", "ab"), 267, "aaa 0", "aa=10 aaa=574 ab=20", true);
        once("on 0, no KEY, a beginning of one", Checks.with("aa", "ab"), 51, "a 0", "a=816 aa=10 ab=20", true);
    }

    private static void elseAKeyIsPut() {
        once("on 1, a KEY", Checks.with("a", "b"), 141, "a 1", "a=665 b=20", true);
        once("on 2, a KEY", Checks.with("a", "b"), 84, "b 2", "a=10 b=806", true);
        once("on 3, a KEY", Checks.with("c"), 16, "c 3", "c=29", true);
    }

    private static void elseNoKeyIsPut() {
        once("on 1, no KEY", Checks.with("b"), 141, "a 1", "a=665 b=10", true);
        once("on 2, no KEY", Checks.with("a"), 84, "b 2", "a=10 b=806", true);
        once("on 3, no KEY", Checks.with("a"), 16, "c 3", "a=10 c=29", true);
    }

    /** "(if it is a KEY, or there are fewer than 24; the DRAW comes in any case then)" */
    private static void among24NoKeyIsNotPut() {
        BitBranches x = upper(24);
        String keys = Checks.keys(x);
        once("on 0, no KEY, 24", upper(24), 267, "aaa 0", keys, true);
        once("on 1, no KEY, 24", upper(24), 141, "a 1", keys, true);
        once("on 2, no KEY, 24", upper(24), 84, "b 2", keys, true);
        once("on 3, no KEY, 24", upper(24), 29, "ccc 3", keys, true);
        x.keep(0);
        x.seed(141);
        x.drift(1);
        C.due("it is one of the times all the same: it can be undone", x.told(10), 1);
    }

    private static void among24AKeyIsPut() {
        String others = Checks.keys(upper(23));
        once("on 1, a KEY, 24", plus("a"), 141, "a 1", others + " a=665", true);
        once("on 3, a KEY, 24", plus("ccc"), 29, "ccc 3", others + " ccc=917", true);
    }

    private static void among24AKeyIsTaken() {
        BitBranches x = plus("aaa");
        once("on 0, a KEY, 24", x, 267, "aaa 0", Checks.keys(upper(23)), false);
        once("on 0, no KEY, 23", x, 267, "aaa 0", Checks.keys(upper(23)) + " aaa=574", true);
        C.due("24 again", x.told(0), 24);
    }

    private static void among23ItIsThe24th() {
        BitBranches x = upper(23);
        once("on 2, no KEY, 23", x, 265, "abc 2", Checks.keys(upper(23)) + " abc=406", true);
        C.due("24 KEYS", x.told(0), 24);
        C.due("23 BRANCHES", x.told(1), 23);
        once("on 2, no KEY, 24 now", x, 84, "b 2", Checks.keys(upper(23)) + " abc=406", true);
    }

    /** A, B, .. : words that no draw makes, all ahead of a, b, c. */
    private static BitBranches upper(int many) {
        return Checks.with("ABCDEFGHIJKLMNOPQRSTUVWX".substring(0, many).split(""));
    }

    private static BitBranches plus(String word) {
        BitBranches x = upper(23);
        Checks.put(x, word, 1);
        return x;
    }

    private static void leastAndMostWorth() {
        once("a worth of 0", new BitBranches(), 380, " 1", "=0", true);
        once("a worth of 999", new BitBranches(), 1355, "c 1", "c=999", true);
    }

    /** "THE WORD stays." */
    private static void theWordStays() {
        BitBranches x = new BitBranches();
        Checks.word(x, "\u00ffbcdefg\1");
        x.drift(20);
        C.due("8 letters", x.told(2), 8);
        C.due("the first BITS", x.bit(1) * 10 + x.bit(8), 11);
        C.due("the last BIT", x.bit(71), 1);
        x.wipe();
        x.drift(20);
        C.due("no letter", x.told(2), 0);
    }

    /** "n times": as often one after another as all at once, and each time goes on from the seed of the last. */
    private static void manyTimes() {
        for (int n = 1; n <= 20; n++) {
            BitBranches atOnce = new BitBranches();
            atOnce.seed(MOST);
            atOnce.drift(n);
            BitBranches byOne = new BitBranches();
            byOne.seed(MOST);
            for (int i = 0; i < n; i++) {
                byOne.drift(1);
            }
            C.holds(n + " times", Checks.keys(atOnce).equals(Checks.keys(byOne)));
            C.due("THE SEED behind " + n, atOnce.seed(0), byOne.seed(0));
            C.due("deeds behind " + n, atOnce.told(10), n);
        }
    }
}
