/**
 * The beginning of a run that leaves something of every kind for a wrong call to spoil: free words on both sides, live
 * blocks, a quarantine below the threshold, stored and revoked capabilities, data and a loaded value.
 *
 * <p>Words 0-1 and 11-15 are FREE, 2-4 and 5-8 are LIVE, 9-10 are QUAR. Registers 1 and 2 hold the live blocks, 5 a part
 * of the first; 3 and 4 hold the quarantined block, as words 6 and 9 do; 0 is revoked, 6 was never tagged, 7 is new.
 */
final class Busy {
    static final String MACHINE = """
        new(16, 8)
        alloc(0, 2) = 0 | r0 tag=1 len=2 | w0-1 owner=1 state=LIVE | free=14 live=2 largest=14 allocs=1
        alloc(1, 3) = 2 | r1 tag=1 base=2 len=3 addr=2 | w2-4 owner=2 state=LIVE | free=11 live=5 largest=11 allocs=2
        alloc(2, 4) = 5 | r2 tag=1 base=5 len=4 addr=5 | w5-8 owner=3 state=LIVE | free=7 live=9 largest=7 allocs=3
        alloc(3, 2) = 9 | r3 tag=1 base=9 len=2 addr=9 | w9-10 owner=4 state=LIVE | free=5 live=11 largest=5 allocs=4
        storeData(1, 41) = OK | w2 value=41
        loadData(1) = OK | loaded=41
        storeCap(2, 1) = OK | w5 tag=1 base=2 len=3 value=2
        addAddr(2, 3) = OK | r2 addr=8
        storeCap(2, 0) = OK | w8 tag=1 base=0 len=2 value=0
        free(0) = OK | w0-1 state=QUAR | quar=2 live=9
        sweep() = 2 | r0 tag=0 | w0-1 owner=0 state=FREE | w8 tag=0 | quar=0 free=7 sweeps=1
        storeCap(3, 3) = OK | w9 tag=1 base=9 len=2 value=9
        addAddr(3, 1) = OK | r3 addr=10
        storeData(3, -7) = OK | w10 value=-7
        addAddr(2, -2) = OK | r2 addr=6
        storeCap(2, 3) = OK | w6 tag=1 base=9 len=2 value=10
        free(3) = OK | w9-10 state=QUAR | quar=2 live=7
        move(4, 3) = OK | r4 tag=1 base=9 len=2 addr=10
        restrict(5, 1, 1, 2) = OK | r5 tag=1 base=3 len=2 addr=3
        addAddr(6, -5) = OK | r6 addr=-5
        """;

    /** What a sweep of the busy machine changes; its count is 4. */
    static final String SWEPT = " | r3 tag=0 | r4 tag=0 | w6 tag=0 | w9 tag=0 base=0 len=0 | w9-10 value=0 owner=0 state=FREE"
        + " | quar=0 free=9 largest=7 sweeps=2\n";

    private Busy() {
    }
}
