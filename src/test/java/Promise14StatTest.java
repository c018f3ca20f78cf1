/** Promise 14: stat. */
public final class Promise14StatTest {
    public static void main(String[] args) {
        Script script = new Script();
        script.run("refused kinds", """
            new(16, 8)
            stat(-1) = -1
            stat(8) = -1
            stat(MIN) = -1
            stat(MAX) = -1
            """);
        script.run("every kind", """
            new(16, 9)
            alloc(0, 2) = 0 | *
            alloc(1, 3) = 2 | *
            alloc(2, 4) = 5 | *
            free(1) = OK | *
            stat(STAT_FREE) = 7
            stat(STAT_QUAR) = 3
            stat(STAT_LIVE) = 6
            stat(STAT_SWEEPS) = 0
            stat(STAT_LARGEST) = 7
            stat(STAT_ALLOCS) = 3
            stat(STAT_HEAP) = 16
            stat(STAT_THRESHOLD) = 9
            sweep() = 1 | *
            stat(STAT_FREE) = 10
            stat(STAT_QUAR) = 0
            stat(STAT_LIVE) = 6
            stat(STAT_SWEEPS) = 1
            stat(STAT_ALLOCS) = 3
            """);
        script.run("the longest run at the start, in the middle and at the end", """
            new(16, 64)
            stat(STAT_LARGEST) = 16
            alloc(0, 5) = 0 | *
            alloc(1, 1) = 5 | *
            alloc(2, 6) = 6 | *
            alloc(3, 1) = 12 | *
            stat(STAT_LARGEST) = 3
            free(0) = OK | *
            # quarantined words are not free
            stat(STAT_LARGEST) = 3
            sweep() = 1 | *
            stat(STAT_LARGEST) = 5
            free(2) = OK | *
            sweep() = 1 | *
            stat(STAT_LARGEST) = 6
            alloc(4, 6) = 6 | *
            alloc(5, 5) = 0 | *
            alloc(6, 3) = 13 | *
            stat(STAT_LARGEST) = 0
            stat(STAT_FREE) = 0
            stat(STAT_LIVE) = 16
            """);
        script.run("refused allocations don't count", """
            new(8, 64)
            alloc(0, 9) = BAD_SIZE
            alloc(8, 1) = BAD_REG
            alloc(0, 8) = 0 | *
            alloc(1, 1) = NO_SPACE
            stat(STAT_ALLOCS) = 1
            stat(STAT_SWEEPS) = 0
            """);
        script.end();
    }
}
