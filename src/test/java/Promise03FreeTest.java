/** Promise 3: free. */
public final class Promise03FreeTest {
    public static void main(String[] args) {
        Script script = new Script();
        script.run("wrong inputs", """
            new(8, 4)
            free(-1) = BAD_REG
            free(8) = BAD_REG
            free(MIN) = BAD_REG
            free(MAX) = BAD_REG
            free(0) = TAG_FAULT
            free(7) = TAG_FAULT
            """);
        script.run("below the threshold", """
            new(16, 8)
            alloc(0, 4) = 0 | *
            alloc(1, 3) = 4 | *
            alloc(2, 2) = 7 | *
            storeData(0, 7) = OK | *
            storeCap(1, 0) = OK | *
            free(1) = OK | w4-6 state=QUAR | quar=3 live=6
            free(0) = OK | w0-3 state=QUAR | quar=7 live=2
            """);
        thresholds(script);
        notABlock(script);
        whatCounts(script);
        script.end();
    }

    private static void thresholds(Script script) {
        script.run("just at the threshold", """
            new(16, 4)
            alloc(0, 3) = 0 | *
            alloc(1, 1) = 3 | *
            alloc(2, 1) = 4 | *
            move(3, 0) = OK | *
            storeCap(2, 0) = OK | *
            storeData(0, 9) = OK | *
            free(0) = OK | w0-2 state=QUAR | quar=3 live=2
            free(1) = OK_SWEPT | r0 tag=0 | r1 tag=0 | r3 tag=0 | w0 value=0 | w0-3 owner=0 state=FREE | w4 tag=0 \
                | quar=0 live=1 free=15 sweeps=1
            """);
        script.run("above the threshold", """
            new(16, 4)
            alloc(0, 3) = 0 | *
            alloc(1, 5) = 3 | *
            free(0) = OK | *
            free(1) = OK_SWEPT | r0 tag=0 | r1 tag=0 | w0-7 owner=0 state=FREE \
                | quar=0 live=0 free=16 largest=16 sweeps=1
            """);
        script.run("a block one short of the threshold", """
            new(64, 64)
            alloc(0, 63) = 0 | *
            alloc(1, 1) = 63 | *
            free(0) = OK | w0-62 state=QUAR | quar=63 live=1
            free(1) = OK_SWEPT | r0 tag=0 | r1 tag=0 | w0-63 owner=0 state=FREE \
                | quar=0 live=0 free=64 largest=64 sweeps=1
            """);
        script.run("what the sweep leaves alone", """
            new(16, 2)
            alloc(0, 2) = 0 | *
            alloc(1, 2) = 2 | *
            storeData(1, 6) = OK | *
            loadData(1) = OK | *
            free(0) = OK_SWEPT | r0 tag=0 | w0-1 owner=0 state=FREE | live=2 free=14 sweeps=1
            free(0) = TAG_FAULT
            """);
    }

    private static void notABlock(Script script) {
        script.run("a narrowed capability", """
            new(16, 8)
            alloc(0, 4) = 0 | *
            alloc(1, 4) = 4 | *
            restrict(2, 1, 0, 3) = OK | *
            restrict(3, 1, 1, 3) = OK | *
            restrict(4, 1, 3, 1) = OK | *
            restrict(5, 0, 0, 1) = OK | *
            free(2) = NOT_BLOCK
            free(3) = NOT_BLOCK
            free(4) = NOT_BLOCK
            free(5) = NOT_BLOCK
            free(1) = OK | w4-7 state=QUAR | quar=4 live=4
            """);
        script.run("a block that is in quarantine already", """
            new(16, 8)
            alloc(0, 4) = 0 | *
            alloc(1, 4) = 4 | *
            move(2, 0) = OK | *
            free(0) = OK | *
            free(0) = NOT_BLOCK
            free(2) = NOT_BLOCK
            free(1) = OK_SWEPT | *
            free(2) = TAG_FAULT
            """);
        script.run("an old capability can't free the block that took its place", """
            new(8, 4)
            alloc(0, 4) = 0 | *
            move(1, 0) = OK | *
            free(0) = OK_SWEPT | *
            alloc(2, 4) = 0 | *
            free(1) = TAG_FAULT
            free(0) = TAG_FAULT
            """);
    }

    private static void whatCounts(Script script) {
        script.run("any capability to the whole block will do", """
            new(16, 16)
            alloc(0, 4) = 0 | *
            alloc(1, 4) = 4 | *
            alloc(2, 4) = 8 | *
            restrict(3, 1, 0, 4) = OK | *
            storeCap(2, 0) = OK | *
            loadCap(4, 2) = OK | *
            free(3) = OK | w4-7 state=QUAR | quar=4 live=8
            free(4) = OK | w0-3 state=QUAR | quar=8 live=4
            """);
        script.run("the address plays no part", """
            new(16, 16)
            alloc(0, 4) = 0 | *
            alloc(1, 4) = 4 | *
            alloc(2, 4) = 8 | *
            addAddr(0, 5) = OK | *
            addAddr(1, -100) = OK | *
            addAddr(2, MAX) = OK | *
            free(0) = OK | w0-3 state=QUAR | quar=4 live=8
            free(1) = OK | w4-7 state=QUAR | quar=8 live=4
            free(2) = OK | w8-11 state=QUAR | quar=12 live=0
            """);
        script.run("blocks of one word, and the last word", """
            new(8, 3)
            alloc(0, 7) = 0 | *
            alloc(1, 1) = 7 | *
            free(1) = OK | w7 state=QUAR | quar=1 live=7
            free(0) = OK_SWEPT | r0 tag=0 | r1 tag=0 | w0-7 owner=0 state=FREE | quar=0 live=0 free=8 largest=8 sweeps=1
            """);
    }
}
