/** What the tests of the project share: counting the answers that are not as due, and typing words. */
final class Checks {
    private int wrong;
    private int asked;

    void due(String what, long got, long want) {
        asked++;
        if (got != want) {
            wrong++;
            System.out.println(what + " answered " + got + ", due is " + want);
        }
    }

    void holds(String what, boolean so) {
        asked++;
        if (!so) {
            wrong++;
            System.out.println("does not hold: " + what);
        }
    }

    int wrong() {
        return wrong;
    }

    void end() {
        System.out.println(asked + " checks, " + wrong + " wrong");
        if (wrong != 0) {
            System.exit(1);
        }
    }

    /** Types a word anew, whatever stood there. */
    static void word(BitBranches x, String letters) {
        x.wipe();
        for (int i = 0; i < letters.length(); i++) {
            x.feed(letters.charAt(i));
        }
    }

    static int put(BitBranches x, String letters, int worth) {
        word(x, letters);
        return x.put(worth);
    }

    /** Keys with worths 10, 20, 30 and on, in the order given. */
    static BitBranches with(String... words) {
        BitBranches x = new BitBranches();
        for (int i = 0; i < words.length; i++) {
            put(x, words[i], 10 * (i + 1));
        }
        x.wipe();
        return x;
    }

    /** Asks no more than it must: an object answers as promised for 512 calls alone. */
    static String keys(BitBranches x) {
        StringBuilder all = new StringBuilder();
        int many = x.told(0);
        for (int k = 0; k < many; k++) {
            all.append(k == 0 ? "" : " ");
            int letters = x.key(k, 8);
            for (int i = 0; i < letters; i++) {
                all.append((char) x.key(k, i));
            }
            all.append('=').append(x.key(k, 9));
        }
        return all.toString();
    }
}
