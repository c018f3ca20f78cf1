/** The edges that promise 1 names. A run bears the sentence that it tests. */
public final class Edges01ConstructionTest {
    public static void main(String[] args) {
        Script script = new Script();
        clampedSizes(script);
        extremes(script);
        sizesInUse(script);
        start(script);
        script.end();
    }

    private static void clampedSizes(Script script) {
        String heaps = "sets H to heapWords clamped to 8..64 (below 8 becomes 8, above 64 becomes 64)";
        String thresholds = "T to threshold clamped to 1..64 (below 1 becomes 1, above 64 becomes 64)";
        for (int size = -70; size <= 140; size++) {
            int heap = size < 8 ? 8 : size > 64 ? 64 : size;
            int threshold = size < 1 ? 1 : size > 64 ? 64 : size;
            script.run(heaps, "new(" + size + ", 5) | heap=" + heap);
            script.run(thresholds, "new(10, " + size + ") | threshold=" + threshold);
        }
    }

    private static void extremes(Script script) {
        script.run("Any int is accepted, including negative values and extreme values; nothing is refused.", """
            new(MIN, 5) | heap=8
            new(MAX, 5) | heap=64
            new(10, MIN) | threshold=1
            new(10, MAX) | threshold=64
            new(MIN, MIN) | heap=8 threshold=1
            new(MAX, MAX) | heap=64 threshold=64
            new(MIN, MAX) | heap=8 threshold=64
            new(MAX, MIN) | heap=64 threshold=1
            new(-1, -1) | heap=8 threshold=1
            new(0, 0) | heap=8 threshold=1
            # numbers whose low byte or low half is a size within the limits
            new(272, 264) | heap=64 threshold=64
            new(65552, 65544) | heap=64 threshold=64
            new(-240, -248) | heap=8 threshold=1
            new(-2147483632, -2147483640) | heap=8 threshold=1
            """);
    }

    private static void sizesInUse(Script script) {
        script.run("below 8 becomes 8", """
            new(7, 0) | heap=8 threshold=1
            alloc(0, 9) = BAD_SIZE
            alloc(0, 8) = 0 | r0 tag=1 len=8 | w0-7 owner=1 state=LIVE | free=0 live=8 largest=0 allocs=1
            mem(7, F_STATE) = LIVE
            mem(8, F_STATE) = -1
            free(0) = OK_SWEPT | r0 tag=0 | w0-7 owner=0 state=FREE | free=8 live=0 largest=8 sweeps=1
            alloc(0, 1) = 0 | r0 tag=1 len=1 | w0 owner=2 state=LIVE | free=7 live=1 largest=7 allocs=2
            free(0) = OK_SWEPT | r0 tag=0 | w0 owner=0 state=FREE | free=8 live=0 largest=8 sweeps=2
            """);
        script.run("above 64 becomes 64", """
            new(65, 65) | heap=64 threshold=64
            alloc(0, 65) = BAD_SIZE
            alloc(0, 63) = 0 | r0 tag=1 len=63 | w0-62 owner=1 state=LIVE | free=1 live=63 largest=1 allocs=1
            alloc(1, 1) = 63 | r1 tag=1 base=63 len=1 addr=63 | w63 owner=2 state=LIVE \
                | free=0 live=64 largest=0 allocs=2
            mem(64, F_STATE) = -1
            free(0) = OK | w0-62 state=QUAR | quar=63 live=1
            free(1) = OK_SWEPT | r0 tag=0 | r1 tag=0 | w0-63 owner=0 state=FREE \
                | quar=0 live=0 free=64 largest=64 sweeps=1
            """);
        script.run("H and T never change afterwards.", Busy.MACHINE
            + "alloc(7, 16) = NO_SPACE" + Busy.SWEPT + """
            stat(STAT_HEAP) = 16
            stat(STAT_THRESHOLD) = 8
            free(1) = OK | w2-4 state=QUAR | quar=3 live=4
            alloc(1, 8) = NO_SPACE | *
            stat(STAT_HEAP) = 16
            stat(STAT_THRESHOLD) = 8
            """);
    }

    private static void start(Script script) {
        String empty = "At the start every word is FREE with owner 0, tag false and cbase = clen = value = 0; "
            + "every register has tag false and base = len = addr = 0; allocs = sweeps = loaded = 0.";
        // A new machine is compared with all of this by the line that makes it, also behind one that was used.
        script.run(empty, "new(8, 1)\nnew(64, 64)\nnew(16, 8)\n");
        script.run(empty, Busy.MACHINE + "new(16, 8)\n");
        String counts = "Hence `stat(STAT_FREE)` is H, `stat(STAT_LARGEST)` is H, and the QUAR and LIVE counts are 0.";
        for (int heap : new int[] {8, 9, 63, 64}) {
            script.run(counts, """
                new($h, 8)
                stat(STAT_FREE) = $h
                stat(STAT_LARGEST) = $h
                stat(STAT_QUAR) = 0
                stat(STAT_LIVE) = 0
                stat(STAT_SWEEPS) = 0
                stat(STAT_ALLOCS) = 0
                loadedValue() = 0
                """.replace("$h", "" + heap));
        }
    }
}
