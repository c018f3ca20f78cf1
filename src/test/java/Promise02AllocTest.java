/** Promise 2: alloc. */
public final class Promise02AllocTest {
    public static void main(String[] args) {
        Script script = new Script();
        script.run("wrong inputs", """
            new(8, 4)
            alloc(-1, 1) = BAD_REG
            alloc(8, 1) = BAD_REG
            alloc(MIN, 1) = BAD_REG
            alloc(MAX, 1) = BAD_REG
            # the register is looked at before the size
            alloc(8, 0) = BAD_REG
            alloc(-1, 9) = BAD_REG
            alloc(0, 0) = BAD_SIZE
            alloc(0, -1) = BAD_SIZE
            alloc(7, 9) = BAD_SIZE
            alloc(7, MIN) = BAD_SIZE
            alloc(7, MAX) = BAD_SIZE
            """);
        script.run("blocks lie one behind the other", """
            new(16, 8)
            alloc(0, 4) = 0 | r0 tag=1 len=4 | w0-3 owner=1 state=LIVE | free=12 live=4 largest=12 allocs=1
            alloc(7, 1) = 4 | r7 tag=1 base=4 len=1 addr=4 | w4 owner=2 state=LIVE | free=11 live=5 largest=11 allocs=2
            alloc(3, 11) = 5 | r3 tag=1 base=5 len=11 addr=5 | w5-15 owner=3 state=LIVE \
                | free=0 live=16 largest=0 allocs=3
            alloc(1, 1) = NO_SPACE
            alloc(1, 17) = BAD_SIZE
            """);
        script.run("the whole heap", """
            new(64, 64)
            alloc(7, 64) = 0 | r7 tag=1 len=64 | w0-63 owner=1 state=LIVE | free=0 live=64 largest=0 allocs=1
            alloc(0, 1) = NO_SPACE
            """);
        script.run("the register's earlier contents are overwritten", """
            new(16, 8)
            alloc(0, 4) = 0 | *
            addAddr(0, 100) = OK | *
            alloc(0, 2) = 4 | r0 base=4 len=2 addr=4 | w4-5 owner=2 state=LIVE | free=10 live=6 largest=10 allocs=2
            addAddr(1, -9) = OK | *
            alloc(1, 2) = 6 | r1 tag=1 base=6 len=2 addr=6 | w6-7 owner=3 state=LIVE | free=8 live=8 largest=8 allocs=3
            """);
        lowestFit(script);
        sweepForRoom(script);
        noSpace(script);
        script.end();
    }

    private static void lowestFit(Script script) {
        script.run("the lowest hole that is wide enough", """
            new(16, 64)
            alloc(0, 2) = 0 | *
            alloc(1, 2) = 2 | *
            alloc(2, 3) = 4 | *
            alloc(3, 1) = 7 | *
            free(0) = OK | *
            free(2) = OK | *
            sweep() = 2 | *
            alloc(4, 3) = 4 | r4 tag=1 base=4 len=3 addr=4 | w4-6 owner=5 state=LIVE | free=10 live=6 allocs=5
            alloc(5, 3) = 8 | r5 tag=1 base=8 len=3 addr=8 | w8-10 owner=6 state=LIVE | free=7 live=9 largest=5 allocs=6
            alloc(6, 1) = 0 | r6 tag=1 len=1 | w0 owner=7 state=LIVE | free=6 live=10 allocs=7
            alloc(7, 1) = 1 | r7 tag=1 base=1 len=1 addr=1 | w1 owner=8 state=LIVE | free=5 live=11 allocs=8
            """);
        script.run("freed neighbours join", """
            new(8, 4)
            alloc(0, 2) = 0 | *
            alloc(1, 2) = 2 | *
            alloc(2, 4) = 4 | *
            free(1) = OK | *
            free(0) = OK_SWEPT | *
            alloc(3, 4) = 0 | r3 tag=1 base=0 len=4 addr=0 | w0-3 owner=4 state=LIVE | free=0 live=8 largest=0 allocs=4
            """);
        script.run("quarantined words are no room, and no sweep runs while there is room elsewhere", """
            new(16, 64)
            alloc(0, 4) = 0 | *
            free(0) = OK | *
            alloc(1, 12) = 4 | r1 tag=1 base=4 len=12 addr=4 | w4-15 owner=2 state=LIVE \
                | free=0 live=12 largest=0 allocs=2
            """);
        script.run("a reused block is empty", """
            new(8, 1)
            alloc(0, 8) = 0 | *
            storeCap(0, 0) = OK | *
            addAddr(0, 1) = OK | *
            storeData(0, 9) = OK | *
            free(0) = OK_SWEPT | *
            alloc(0, 8) = 0 | r0 tag=1 addr=0 | w0-7 owner=2 state=LIVE | free=0 live=8 largest=0 allocs=2
            """);
    }

    private static void sweepForRoom(Script script) {
        script.run("a sweep makes room", """
            new(8, 64)
            alloc(0, 4) = 0 | *
            alloc(1, 4) = 4 | *
            move(2, 0) = OK | *
            storeCap(1, 0) = OK | *
            storeData(0, 7) = OK | *
            loadData(0) = OK | *
            free(0) = OK | *
            alloc(3, 3) = 0 | r0 tag=0 | r2 tag=0 | r3 tag=1 len=3 | w0-2 owner=3 state=LIVE value=0 \
                | w3 owner=0 state=FREE | w4 tag=0 | quar=0 live=7 free=1 largest=1 sweeps=1 allocs=3
            """);
        script.run("the register that the sweep revokes is the one that is filled", """
            new(8, 64)
            alloc(0, 8) = 0 | *
            addAddr(0, 3) = OK | *
            free(0) = OK | *
            alloc(0, 8) = 0 | r0 addr=0 | w0-7 owner=2 state=LIVE | quar=0 live=8 sweeps=1 allocs=2
            """);
        script.run("swept words join free words", """
            new(8, 64)
            alloc(0, 4) = 0 | *
            free(0) = OK | *
            alloc(1, 6) = 0 | r0 tag=0 | r1 tag=1 len=6 | w0-5 owner=2 state=LIVE \
                | quar=0 live=6 free=2 largest=2 sweeps=1 allocs=2
            """);
    }

    private static void noSpace(Script script) {
        script.run("no sweep without quarantine", """
            new(8, 64)
            alloc(0, 5) = 0 | *
            alloc(0, 4) = NO_SPACE
            alloc(1, 8) = NO_SPACE
            alloc(1, 3) = 5 | r1 tag=1 base=5 len=3 addr=5 | w5-7 owner=2 state=LIVE | free=0 live=8 largest=0 allocs=2
            """);
        script.run("a sweep that doesn't make room enough stays done", """
            new(8, 64)
            alloc(0, 2) = 0 | *
            alloc(1, 2) = 2 | *
            storeCap(1, 0) = OK | *
            storeData(0, 5) = OK | *
            free(0) = OK | *
            alloc(1, 5) = NO_SPACE | r0 tag=0 | w0 value=0 | w0-1 owner=0 state=FREE | w2 tag=0 | quar=0 free=6 sweeps=1
            # the quarantine is empty now: no further sweep
            alloc(1, 5) = NO_SPACE
            alloc(0, 5) = NO_SPACE
            """);
        script.run("a refused size doesn't sweep", """
            new(8, 64)
            alloc(0, 8) = 0 | *
            free(0) = OK | *
            alloc(0, 9) = BAD_SIZE
            alloc(8, 8) = BAD_REG
            """);
    }
}
