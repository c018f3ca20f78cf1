/** Promise 4: sweep, and the steps of the shared term. */
public final class Promise04SweepTest {
    public static void main(String[] args) {
        Script script = new Script();
        script.run("with an empty quarantine", """
            new(8, 4)
            sweep() = 0 | sweeps=1
            alloc(0, 4) = 0 | *
            storeCap(0, 0) = OK | *
            sweep() = 0 | sweeps=2
            sweep() = 0 | sweeps=3
            """);
        script.run("all registers and all words are looked at", """
            new(16, 64)
            alloc(0, 2) = 0 | *
            alloc(7, 14) = 2 | *
            storeCap(7, 0) = OK | *
            addAddr(7, 13) = OK | *
            storeCap(7, 0) = OK | *
            move(3, 0) = OK | *
            move(6, 0) = OK | *
            free(0) = OK | *
            sweep() = 5 | r0 tag=0 | r3 tag=0 | r6 tag=0 | w0-1 owner=0 state=FREE | w2 tag=0 | w15 tag=0 \
                | quar=0 free=2 largest=2 sweeps=1
            sweep() = 0 | sweeps=2
            """);
        script.run("registers 0 and 7", """
            new(8, 64)
            alloc(7, 8) = 0 | *
            move(0, 7) = OK | *
            free(7) = OK | *
            sweep() = 2 | r0 tag=0 | r7 tag=0 | w0-7 owner=0 state=FREE | quar=0 free=8 largest=8 sweeps=1
            """);
        script.run("the base decides, not the address", """
            new(16, 64)
            alloc(0, 4) = 0 | *
            alloc(1, 4) = 4 | *
            addAddr(0, 5) = OK | *
            addAddr(1, -4) = OK | *
            free(0) = OK | *
            sweep() = 1 | r0 tag=0 | w0-3 owner=0 state=FREE | quar=0 free=12 largest=8 sweeps=1
            """);
        script.run("the base decides in a word too", """
            new(16, 64)
            alloc(0, 4) = 0 | *
            alloc(1, 4) = 4 | *
            alloc(2, 4) = 8 | *
            addAddr(0, 5) = OK | *
            addAddr(1, -4) = OK | *
            storeCap(2, 0) = OK | *
            addAddr(2, 1) = OK | *
            storeCap(2, 1) = OK | *
            free(0) = OK | *
            sweep() = 2 | r0 tag=0 | w0-3 owner=0 state=FREE | w8 tag=0 | quar=0 free=8 sweeps=1
            """);
        script.run("narrowed capabilities inside the block", """
            new(16, 64)
            alloc(0, 4) = 0 | *
            alloc(1, 4) = 4 | *
            restrict(2, 0, 3, 1) = OK | *
            restrict(3, 1, 0, 1) = OK | *
            restrict(4, 0, 1, 2) = OK | *
            storeCap(1, 2) = OK | *
            free(0) = OK | *
            sweep() = 4 | r0 tag=0 | r2 tag=0 | r4 tag=0 | w0-3 owner=0 state=FREE | w4 tag=0 \
                | quar=0 free=12 largest=8 sweeps=1
            """);
        wordsInQuarantine(script);
        nothingElse(script);
        script.end();
    }

    private static void wordsInQuarantine(Script script) {
        script.run("a quarantined word with a quarantined base counts and is emptied", """
            new(8, 64)
            alloc(0, 4) = 0 | *
            addAddr(0, 2) = OK | *
            storeCap(0, 0) = OK | *
            free(0) = OK | *
            sweep() = 2 | r0 tag=0 | w2 tag=0 base=0 len=0 value=0 | w0-3 owner=0 state=FREE \
                | quar=0 free=8 largest=8 sweeps=1
            """);
        script.run("a quarantined word with a live base doesn't count, and is emptied", """
            new(8, 64)
            alloc(0, 4) = 0 | *
            alloc(1, 4) = 4 | *
            storeCap(0, 1) = OK | *
            free(0) = OK | *
            sweep() = 1 | r0 tag=0 | w0 tag=0 base=0 len=0 value=0 | w0-3 owner=0 state=FREE \
                | quar=0 free=4 largest=4 sweeps=1
            """);
        script.run("two quarantined blocks that point at each other", """
            new(8, 64)
            alloc(0, 4) = 0 | *
            alloc(1, 4) = 4 | *
            storeCap(0, 1) = OK | *
            storeCap(1, 0) = OK | *
            free(0) = OK | *
            free(1) = OK | *
            sweep() = 4 | r0 tag=0 | r1 tag=0 | w0 tag=0 base=0 len=0 value=0 | w4 tag=0 len=0 \
                | w0-7 owner=0 state=FREE | quar=0 free=8 largest=8 sweeps=1
            """);
        script.run("an untagged word in quarantine is emptied", """
            new(8, 64)
            alloc(0, 2) = 0 | *
            storeData(0, -1) = OK | *
            free(0) = OK | *
            sweep() = 1 | r0 tag=0 | w0 value=0 | w0-1 owner=0 state=FREE | quar=0 free=8 largest=8 sweeps=1
            """);
    }

    private static void nothingElse(Script script) {
        script.run("live capabilities, the loaded value and untagged copies stay", """
            new(16, 64)
            alloc(0, 2) = 0 | *
            alloc(1, 4) = 2 | *
            alloc(2, 4) = 6 | *
            storeCap(2, 1) = OK | *
            loadData(2) = OK | *
            storeData(1, 55) = OK | *
            free(0) = OK | *
            sweep() = 1 | r0 tag=0 | w0-1 owner=0 state=FREE | quar=0 free=8 sweeps=1
            # an untagged copy of a revoked capability isn't counted again
            alloc(3, 2) = 0 | *
            storeCap(1, 0) = OK | *
            free(3) = OK | *
            sweep() = 1 | r3 tag=0 | w0-1 owner=0 state=FREE | quar=0 free=8 sweeps=2
            """);
        script.run("a revoked capability keeps its other fields", """
            new(16, 64)
            alloc(0, 1) = 0 | *
            alloc(1, 5) = 1 | *
            addAddr(1, 2) = OK | *
            storeCap(0, 1) = OK | *
            free(1) = OK | *
            sweep() = 2 | r1 tag=0 | w0 tag=0 | w1-5 owner=0 state=FREE | quar=0 free=15 largest=15 sweeps=1
            reg(1, F_BASE) = 1
            reg(1, F_LEN) = 5
            reg(1, F_ADDR) = 3
            mem(0, F_BASE) = 1
            mem(0, F_LEN) = 5
            mem(0, F_ADDR) = 3
            """);
    }
}
