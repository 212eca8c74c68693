import java.util.Arrays;

/** A call as numbers, which one it is and then its arguments, so that it can be made on several objects. */
final class Calls {
    static final int PUT = 0;
    static final int DELETE = 1;
    static final int REFRESH = 2;
    static final int CRASH = 3;
    static final int RESTART = 4;
    static final int SEARCH = 5;
    static final int HIT = 6;
    static final int SCORE = 7;
    static final int COUNT = 8;
    static final int OPEN = 9;
    static final int IN_PLAY = 10;
    static final int WEIGHT = 11;

    private static final String[] NAMES = {
        "put", "delete", "refresh", "crash", "restart", "search", "hit", "score", "count", "open", "inPlay", "weight",
    };

    private Calls() {
    }

    static int make(ShardSearch x, int... call) {
        return switch (call[0]) {
            case PUT -> x.put(call[1], call[2], call[3]);
            case DELETE -> x.delete(call[1]);
            case REFRESH -> x.refresh();
            case CRASH -> x.crash(call[1]);
            case RESTART -> x.restart(call[1]);
            case SEARCH -> x.search(call[1], call[2]);
            case HIT -> x.hit(call[1]);
            case SCORE -> x.score(call[1]);
            case COUNT -> x.count(call[1], call[2]);
            case OPEN -> x.open(call[1]) ? 1 : 0;
            case IN_PLAY -> x.inPlay();
            default -> x.weight(call[1]);
        };
    }

    static int make(Model x, int... call) {
        return switch (call[0]) {
            case PUT -> x.put(call[1], call[2], call[3]);
            case DELETE -> x.delete(call[1]);
            case REFRESH -> x.refresh();
            case CRASH -> x.crash(call[1]);
            case RESTART -> x.restart(call[1]);
            case SEARCH -> x.search(call[1], call[2]);
            case HIT -> x.hit(call[1]);
            case SCORE -> x.score(call[1]);
            case COUNT -> x.count(call[1], call[2]);
            case OPEN -> x.open(call[1]) ? 1 : 0;
            case IN_PLAY -> x.inPlay();
            default -> x.weight(call[1]);
        };
    }

    static String name(int... call) {
        return NAMES[call[0]];
    }

    static String text(int... call) {
        String arguments = Arrays.toString(Arrays.copyOfRange(call, 1, call.length));
        return name(call) + "(" + arguments.substring(1, arguments.length() - 1) + ")";
    }
}
