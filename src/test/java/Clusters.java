/** Crashes and restarts that many tests make. */
final class Clusters {
    private Clusters() {
    }

    static void close(ShardSearch x, int shard) {
        x.crash(shard);
        x.crash(shard + 3);
    }

    static void reopen(ShardSearch x, int shard) {
        x.restart(shard);
        x.restart(shard + 3);
    }
}
