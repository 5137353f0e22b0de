/** Each call of the face by its number, on the class and on the model alike. */
final class Calls {
    static final String[] NAMES = {"feed", "wipe", "type", "told", "key", "branch", "put", "take", "cut", "raise", "drift", "undo",
        "below", "stem", "beside", "closest", "off", "blind", "way", "unlike", "bit", "seed", "keep", "goBack"};

    private Calls() {
    }

    static int of(BitBranches x, int call, int a, int b) {
        return switch (call) {
            case 0 -> x.feed(a);
            case 1 -> x.wipe();
            case 2 -> x.type(a);
            case 3 -> x.told(a);
            case 4 -> x.key(a, b);
            case 5 -> x.branch(a, b);
            case 6 -> x.put(a);
            case 7 -> x.take();
            case 8 -> x.cut();
            case 9 -> x.raise(a);
            case 10 -> x.drift(a);
            case 11 -> x.undo(a);
            case 12 -> x.below(a);
            case 13 -> x.stem();
            case 14 -> x.beside(a);
            case 15 -> x.closest();
            case 16 -> x.off();
            case 17 -> x.blind(a);
            case 18 -> x.way(a, b);
            case 19 -> x.unlike(a, b);
            case 20 -> x.bit(a);
            case 21 -> x.seed(a);
            case 22 -> x.keep(a);
            default -> x.goBack(a);
        };
    }

    static int of(Model x, int call, int a, int b) {
        return switch (call) {
            case 0 -> x.feed(a);
            case 1 -> x.wipe();
            case 2 -> x.type(a);
            case 3 -> x.told(a);
            case 4 -> x.key(a, b);
            case 5 -> x.branch(a, b);
            case 6 -> x.put(a);
            case 7 -> x.take();
            case 8 -> x.cut();
            case 9 -> x.raise(a);
            case 10 -> x.drift(a);
            case 11 -> x.undo(a);
            case 12 -> x.below(a);
            case 13 -> x.stem();
            case 14 -> x.beside(a);
            case 15 -> x.closest();
            case 16 -> x.off();
            case 17 -> x.blind(a);
            case 18 -> x.way(a, b);
            case 19 -> x.unlike(a, b);
            case 20 -> x.bit(a);
            case 21 -> x.seed(a);
            case 22 -> x.keep(a);
            default -> x.goBack(a);
        };
    }
}
