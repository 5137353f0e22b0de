/** A tree of words that branches at single bits alone. The words in capitals are those of the document. */
public final class BitBranches {
    public static final int NONE = -1, UNKNOWN = -1000000001, OUTSIDE = -1000000002, NOT = -1000000003, FULL = -1000000004;

    private static final int MOST_LETTERS = 8;
    private static final int MOST_LETTER = 255;
    private static final int BITS_A_LETTER = 9;
    private static final int ALL_BITS = 72;
    private static final int BITS_PACKED = 64;
    private static final int MOST_KEYS = 24;
    private static final int MOST_WORTH = 9999;
    private static final int MOST_DEEDS = 20;
    private static final int IMAGES = 2;

    private final Word word;
    private final Word drawn;
    private final Keys keys;
    private final Branches branches;
    private final Past past;
    private final Shelf images;
    private final boolean[] imageKept;
    private final int[] imageSeeds;
    private int theSeed;

    public BitBranches() {
        word = new Word();
        drawn = new Word();
        keys = new Keys();
        branches = new Branches();
        past = new Past();
        images = new Shelf(IMAGES);
        imageKept = new boolean[IMAGES];
        imageSeeds = new int[IMAGES];
    }

    // ---- the word

    public int feed(int letter) {
        if (letter < 0 || letter > MOST_LETTER) {
            return OUTSIDE;
        }
        if (word.size() >= MOST_LETTERS) {
            return FULL;
        }
        word.append(letter);
        return word.size();
    }

    public int wipe() {
        int had = word.size();
        word.clear();
        return had;
    }

    public int type(int k) {
        if (!keys.has(k)) {
            return UNKNOWN;
        }
        word.become(keys.lettersOf(k), keys.sizeOf(k));
        return word.size();
    }

    public int told(int what) {
        switch (what) {
            case 0: return keys.count();
            case 1: return branches.count();
            case 2: return word.size();
            case 3: return branches.greatestDepth();
            case 4: return branches.depthsTogether();
            case 5: return keys.worthsOf(0, keys.count());
            case 6: return branches.topBit();
            case 7: return branches.greatestBit();
            case 8: return keys.placeOf(word);
            case 9: return keys.find(word);
            case 10: return past.size();
            default: return OUTSIDE;
        }
    }

    public int key(int k, int what) {
        if (!keys.has(k)) {
            return UNKNOWN;
        }
        if (what >= 0 && what < MOST_LETTERS) {
            return what < keys.sizeOf(k) ? Word.letterOf(keys.lettersOf(k), what) : NONE;
        }
        switch (what) {
            case 8: return keys.sizeOf(k);
            case 9: return keys.worthOf(k);
            case 10: return branches.depthOfKey(k);
            case 11: return keys.sharedWith(k, word);
            case 12: return branches.greatestDepthWithout(k);
            default: return OUTSIDE;
        }
    }

    public int branch(int b, int what) {
        if (!branches.has(b)) {
            return UNKNOWN;
        }
        switch (what) {
            case 0: return branches.bitOf(b);
            case 1: return branches.depthOf(b);
            case 2: return branches.keysBelow(b);
            case 3: return branches.keysLeft(b);
            case 4: return branches.firstKey(b);
            case 5: return branches.aboveOf(b);
            default: return OUTSIDE;
        }
    }

    // ---- deeds

    public int put(int worth) {
        if (worth < 0 || worth > MOST_WORTH) {
            return OUTSIDE;
        }
        int k = keys.find(word);
        if (k == NONE && keys.isFull()) {
            return FULL;
        }
        int was = k == NONE ? NONE : keys.worthOf(k);
        past.remember(keys);
        keys.set(word, worth);
        branches.grow(keys);
        return was;
    }

    public int take() {
        int k = keys.find(word);
        if (k == NONE) {
            return NOT;
        }
        int was = keys.worthOf(k);
        past.remember(keys);
        keys.remove(k, 1);
        branches.grow(keys);
        return was;
    }

    public int cut() {
        int many = keys.countBelow(word);
        past.remember(keys);
        keys.remove(keys.placeOf(word), many);
        branches.grow(keys);
        return many;
    }

    public int raise(int more) {
        if (more < 1 || more > MOST_WORTH) {
            return OUTSIDE;
        }
        int many = keys.countBelow(word);
        past.remember(keys);
        keys.addWorth(keys.placeOf(word), many, more);
        return many;
    }

    public int drift(int n) {
        if (n < 1 || n > MOST_DEEDS) {
            return OUTSIDE;
        }
        for (int i = 0; i < n; i++) {
            past.remember(keys);
            deedByDraws();
        }
        branches.grow(keys);
        return keys.count();
    }

    public int undo(int n) {
        if (n < 1 || n > MOST_DEEDS) {
            return OUTSIDE;
        }
        if (n > past.size()) {
            return NOT;
        }
        past.restore(n, keys);
        branches.grow(keys);
        return keys.count();
    }

    // ---- asked

    public int below(int what) {
        int first = keys.placeOf(word);
        int many = keys.countBelow(word);
        switch (what) {
            case 0: return many;
            case 1: return many > 0 ? first : NONE;
            case 2: return keys.worthsOf(first, many);
            case 3: return keys.mostWorth(first, many);
            default: return OUTSIDE;
        }
    }

    public int stem() {
        return keys.longestStem(word);
    }

    public int beside(int what) {
        int place = keys.placeOf(word);
        switch (what) {
            case 0: return keys.orNone(place - 1);
            case 1: return keys.orNone(keys.find(word) == NONE ? place : place + 1);
            default: return OUTSIDE;
        }
    }

    public int closest() {
        return keys.mostShared(word);
    }

    public int off() {
        int k = keys.mostShared(word);
        if (k == NONE) {
            return NONE;
        }
        int shared = keys.sharedWith(k, word);
        return shared == ALL_BITS ? NONE : shared;
    }

    public int blind(int what) {
        int k = branches.keyReachedBy(word);
        switch (what) {
            case 0: return k;
            // The branches looked at are just those on the way to the key reached.
            case 1: return k == NONE ? 0 : branches.depthOfKey(k);
            default: return OUTSIDE;
        }
    }

    public int way(int k, int i) {
        return keys.has(k) ? branches.onWay(k, i) : UNKNOWN;
    }

    public int unlike(int k, int j) {
        if (!keys.has(k) || !keys.has(j) || k == j) {
            return UNKNOWN;
        }
        return keys.firstUnlike(k, j);
    }

    public int bit(int i) {
        if (i < 0 || i >= ALL_BITS) {
            return OUTSIDE;
        }
        return word.bitAt(i);
    }

    // ---- images

    public int seed(int v) {
        if (v < 0) {
            return OUTSIDE;
        }
        int was = theSeed;
        theSeed = v;
        return was;
    }

    public int keep(int i) {
        if (i < 0 || i >= IMAGES) {
            return UNKNOWN;
        }
        images.store(i, keys);
        imageSeeds[i] = theSeed;
        imageKept[i] = true;
        past.forget();
        return 1;
    }

    public int goBack(int i) {
        if (i < 0 || i >= IMAGES) {
            return UNKNOWN;
        }
        if (!imageKept[i]) {
            return NOT;
        }
        images.load(i, keys);
        theSeed = imageSeeds[i];
        past.forget();
        branches.grow(keys);
        return 1;
    }

    // ---- by draws

    private void deedByDraws() {
        drawWord();
        boolean goes = nextDraw() % 4 == 0;
        int k = keys.find(drawn);
        if (goes && k != NONE) {
            keys.remove(k, 1);
        } else {
            // The worth is drawn even if the word finds no room: later draws hang on it.
            keys.set(drawn, nextDraw() % 1000);
        }
    }

    private void drawWord() {
        int letters = nextDraw() % 4;
        drawn.clear();
        for (int i = 0; i < letters; i++) {
            drawn.append(97 + nextDraw() % 3);
        }
    }

    private int nextDraw() {
        theSeed = (int) ((theSeed * 1103515245L + 12345L) & 0x7fffffffL);
        return theSeed / 65536;
    }

    /** A WORD that is typed or drawn, and how the bits of any word, packed in a long, are read. */
    private static final class Word {
        // LETTER 0 is in the highest byte; bytes behind the last LETTER are 0.
        private long letters;
        private int size;

        int size() {
            return size;
        }

        long letters() {
            return letters;
        }

        void clear() {
            letters = 0;
            size = 0;
        }

        void become(long newLetters, int newSize) {
            letters = newLetters;
            size = newSize;
        }

        void append(int letter) {
            if (size >= MOST_LETTERS) {
                return;
            }
            letters |= (long) letter << (BITS_PACKED - 8 * (size + 1));
            size++;
        }

        int bitAt(int i) {
            return bitOf(letters, size, i);
        }

        static int letterOf(long letters, int i) {
            return (int) (letters >>> (BITS_PACKED - 8 * (i + 1))) & MOST_LETTER;
        }

        static int bitOf(long letters, int size, int i) {
            int letter = i / BITS_A_LETTER;
            int within = i % BITS_A_LETTER;
            if (within == 0) {
                return letter < size ? 1 : 0;
            }
            return (letterOf(letters, letter) >> (BITS_A_LETTER - 1 - within)) & 1;
        }

        static int firstUnlikeBit(long a, int sizeOfA, long b, int sizeOfB) {
            int both = Math.min(sizeOfA, sizeOfB);
            for (int i = 0; i < both; i++) {
                int apart = letterOf(a ^ b, i);
                if (apart != 0) {
                    return BITS_A_LETTER * i + 1 + zerosAheadOf(apart);
                }
            }
            return sizeOfA == sizeOfB ? ALL_BITS : BITS_A_LETTER * both;
        }

        private static int zerosAheadOf(int letter) {
            int zeros = 0;
            for (int mask = 128; mask > 0 && (letter & mask) == 0; mask >>= 1) {
                zeros++;
            }
            return zeros;
        }
    }

    /** The KEYS in their order, with their worths. */
    private static final class Keys {
        private final long[] letters;
        private final int[] sizes;
        private final int[] worths;
        private int count;

        Keys() {
            letters = new long[MOST_KEYS];
            sizes = new int[MOST_KEYS];
            worths = new int[MOST_KEYS];
        }

        int count() {
            return count;
        }

        boolean has(int k) {
            return k >= 0 && k < count;
        }

        boolean isFull() {
            return count >= MOST_KEYS;
        }

        long lettersOf(int k) {
            return letters[k];
        }

        int sizeOf(int k) {
            return sizes[k];
        }

        int worthOf(int k) {
            return worths[k];
        }

        int sharedWith(int k, Word word) {
            return Word.firstUnlikeBit(letters[k], sizes[k], word.letters(), word.size());
        }

        int firstUnlike(int k, int j) {
            return Word.firstUnlikeBit(letters[k], sizes[k], letters[j], sizes[j]);
        }

        int placeOf(Word word) {
            for (int k = 0; k < count; k++) {
                int shared = sharedWith(k, word);
                if (shared == ALL_BITS || word.bitAt(shared) == 0) {
                    return k;
                }
            }
            return count;
        }

        private boolean isAt(int k, Word word) {
            return has(k) && sharedWith(k, word) == ALL_BITS;
        }

        int find(Word word) {
            int place = placeOf(word);
            return isAt(place, word) ? place : NONE;
        }

        int orNone(int k) {
            return has(k) ? k : NONE;
        }

        /** Those that begin with a word stand together, from the word's place on. */
        int countBelow(Word word) {
            int first = placeOf(word);
            int end = first;
            while (end < count && sharedWith(end, word) >= BITS_A_LETTER * word.size()) {
                end++;
            }
            return end - first;
        }

        int worthsOf(int first, int many) {
            int sum = 0;
            for (int k = first; k < first + many && k < count; k++) {
                sum += worths[k];
            }
            return sum;
        }

        int mostWorth(int first, int many) {
            int best = NONE;
            for (int k = first; k < first + many && k < count; k++) {
                if (best == NONE || worths[k] > worths[best]) {
                    best = k;
                }
            }
            return best;
        }

        int longestStem(Word word) {
            int longest = NONE;
            for (int k = 0; k < count; k++) {
                boolean isStem = sharedWith(k, word) >= BITS_A_LETTER * sizes[k];
                if (isStem && (longest == NONE || sizes[k] > sizes[longest])) {
                    longest = k;
                }
            }
            return longest;
        }

        int mostShared(Word word) {
            int best = NONE;
            int most = NONE;
            for (int k = 0; k < count; k++) {
                int shared = sharedWith(k, word);
                if (shared > most) {
                    best = k;
                    most = shared;
                }
            }
            return best;
        }

        /** Without room for a new one nothing changes. */
        void set(Word word, int worth) {
            int place = placeOf(word);
            if (isAt(place, word)) {
                worths[place] = worth;
            } else if (!isFull()) {
                insert(place, word, worth);
            }
        }

        private void insert(int at, Word word, int worth) {
            for (int k = count; k > at; k--) {
                letters[k] = letters[k - 1];
                sizes[k] = sizes[k - 1];
                worths[k] = worths[k - 1];
            }
            letters[at] = word.letters();
            sizes[at] = word.size();
            worths[at] = worth;
            count++;
        }

        void remove(int first, int many) {
            if (many < 1 || first < 0 || first + many > count) {
                return;
            }
            for (int k = first; k + many < count; k++) {
                letters[k] = letters[k + many];
                sizes[k] = sizes[k + many];
                worths[k] = worths[k + many];
            }
            count -= many;
        }

        void addWorth(int first, int many, int more) {
            for (int k = first; k < first + many && k < count; k++) {
                worths[k] = Math.min(MOST_WORTH, worths[k] + more);
            }
        }
    }

    /** The BRANCHES over the KEYS. A branch's LEFT branch is the next one, its RIGHT branch as many on as it has LEFT keys. */
    private static final class Branches {
        private final int[] bits;
        private final int[] depths;
        private final int[] manyBelow;
        private final int[] manyLeft;
        private final int[] firsts;
        private final int[] aboves;
        private final int[] aboveKeys;
        private final int[] gaps;
        private int keyCount;

        Branches() {
            bits = new int[MOST_KEYS];
            depths = new int[MOST_KEYS];
            manyBelow = new int[MOST_KEYS];
            manyLeft = new int[MOST_KEYS];
            firsts = new int[MOST_KEYS];
            aboves = new int[MOST_KEYS];
            aboveKeys = new int[MOST_KEYS];
            gaps = new int[MOST_KEYS];
        }

        int count() {
            return Math.max(0, keyCount - 1);
        }

        boolean has(int b) {
            return b >= 0 && b < count();
        }

        int bitOf(int b) {
            return bits[b];
        }

        int depthOf(int b) {
            return depths[b];
        }

        int keysBelow(int b) {
            return manyBelow[b];
        }

        int keysLeft(int b) {
            return manyLeft[b];
        }

        int firstKey(int b) {
            return firsts[b];
        }

        int aboveOf(int b) {
            return aboves[b];
        }

        /** Each branch comes ahead of those below it, so one pass in their order reaches all. */
        void grow(Keys keys) {
            keyCount = keys.count();
            for (int k = 0; k + 1 < keyCount; k++) {
                gaps[k] = keys.firstUnlike(k, k + 1);
            }
            if (keyCount > 0) {
                hang(0, 0, keyCount, NONE);
            }
            for (int b = 0; b < count(); b++) {
                split(b);
                hang(b + 1, firsts[b], manyLeft[b], b);
                hang(b + manyLeft[b], firsts[b] + manyLeft[b], manyBelow[b] - manyLeft[b], b);
            }
        }

        private void hang(int b, int first, int many, int above) {
            if (first < 0 || first >= keyCount) {
                return;
            }
            if (many == 1) {
                aboveKeys[first] = above;
                return;
            }
            if (!has(b)) {
                return;
            }
            firsts[b] = first;
            manyBelow[b] = many;
            aboves[b] = above;
            depths[b] = has(above) ? depths[above] + 1 : 0;
        }

        /** In order, keys turn from 0 to 1 at their SPLIT just once: at the least gap between neighbours. */
        private void split(int b) {
            int least = firsts[b];
            for (int k = least + 1; k + 1 < firsts[b] + manyBelow[b]; k++) {
                if (gaps[k] < gaps[least]) {
                    least = k;
                }
            }
            bits[b] = gaps[least];
            manyLeft[b] = least + 1 - firsts[b];
        }

        int topBit() {
            return count() > 0 ? bits[0] : NONE;
        }

        int greatestBit() {
            int greatest = NONE;
            for (int b = 0; b < count(); b++) {
                greatest = Math.max(greatest, bits[b]);
            }
            return greatest;
        }

        int depthOfKey(int k) {
            int above = aboveKeys[k];
            return has(above) ? depths[above] + 1 : 0;
        }

        int greatestDepth() {
            int greatest = 0;
            for (int k = 0; k < keyCount; k++) {
                greatest = Math.max(greatest, depthOfKey(k));
            }
            return greatest;
        }

        int depthsTogether() {
            int sum = 0;
            for (int k = 0; k < keyCount; k++) {
                sum += depthOfKey(k);
            }
            return sum;
        }

        /** With a key the branch right above it goes too, so what else is below that one rises by 1. */
        int greatestDepthWithout(int gone) {
            int above = aboveKeys[gone];
            int greatest = 0;
            for (int k = 0; k < keyCount; k++) {
                if (k != gone) {
                    int rise = isBelow(k, above) ? 1 : 0;
                    greatest = Math.max(greatest, depthOfKey(k) - rise);
                }
            }
            return greatest;
        }

        private boolean isBelow(int k, int b) {
            return has(b) && k >= firsts[b] && k < firsts[b] + manyBelow[b];
        }

        int keyReachedBy(Word word) {
            if (keyCount < 2) {
                return keyCount == 1 ? 0 : NONE;
            }
            int b = 0;
            for (int looks = 0; looks < count() && has(b); looks++) {
                boolean right = word.bitAt(bits[b]) == 1;
                int many = right ? manyBelow[b] - manyLeft[b] : manyLeft[b];
                if (many == 1) {
                    return right ? firsts[b] + manyLeft[b] : firsts[b];
                }
                b = right ? b + manyLeft[b] : b + 1;
            }
            return NONE;
        }

        int onWay(int k, int i) {
            int depth = depthOfKey(k);
            if (i < 0 || i >= depth) {
                return NONE;
            }
            int b = aboveKeys[k];
            for (int d = depth - 1; d > i && has(b); d--) {
                b = aboves[b];
            }
            return b;
        }
    }

    /** Copies of the KEYS, one a place, side by side in long rows. */
    private static final class Shelf {
        private final int places;
        private final long[] letters;
        private final int[] sizes;
        private final int[] worths;
        private final int[] counts;

        Shelf(int places) {
            this.places = places;
            letters = new long[places * MOST_KEYS];
            sizes = new int[places * MOST_KEYS];
            worths = new int[places * MOST_KEYS];
            counts = new int[places];
        }

        void store(int place, Keys keys) {
            if (place < 0 || place >= places) {
                return;
            }
            int from = place * MOST_KEYS;
            System.arraycopy(keys.letters, 0, letters, from, keys.count);
            System.arraycopy(keys.sizes, 0, sizes, from, keys.count);
            System.arraycopy(keys.worths, 0, worths, from, keys.count);
            counts[place] = keys.count;
        }

        void load(int place, Keys keys) {
            if (place < 0 || place >= places) {
                return;
            }
            int from = place * MOST_KEYS;
            keys.count = counts[place];
            System.arraycopy(letters, from, keys.letters, 0, keys.count);
            System.arraycopy(sizes, from, keys.sizes, 0, keys.count);
            System.arraycopy(worths, from, keys.worths, 0, keys.count);
        }
    }

    /** The KEYS as they were ahead of each of the latest deeds, in a ring. */
    private static final class Past {
        private final Shelf shelf;
        private int next;
        private int size;

        Past() {
            shelf = new Shelf(MOST_DEEDS);
        }

        int size() {
            return size;
        }

        void remember(Keys keys) {
            shelf.store(next, keys);
            next = (next + 1) % MOST_DEEDS;
            size = Math.min(MOST_DEEDS, size + 1);
        }

        void restore(int deeds, Keys keys) {
            if (deeds < 1 || deeds > size) {
                return;
            }
            next = (next + MOST_DEEDS - deeds) % MOST_DEEDS;
            size -= deeds;
            shelf.load(next, keys);
        }

        void forget() {
            size = 0;
        }
    }
}
