/** Promise 11: loadCap. */
public final class Promise11LoadCapTest {
    public static void main(String[] args) {
        Script script = new Script();
        script.run("wrong inputs", """
            new(16, 4)
            alloc(0, 4) = 0 | *
            loadCap(-1, 0) = BAD_REG
            loadCap(8, 0) = BAD_REG
            loadCap(0, -1) = BAD_REG
            loadCap(0, 8) = BAD_REG
            loadCap(MIN, MAX) = BAD_REG
            # the registers are looked at before the tag and the bounds
            loadCap(8, 1) = BAD_REG
            loadCap(0, 1) = TAG_FAULT
            addAddr(0, 4) = OK | *
            loadCap(8, 0) = BAD_REG
            loadCap(1, 0) = BOUNDS_FAULT
            loadCap(0, 0) = BOUNDS_FAULT
            addAddr(0, -5) = OK | *
            loadCap(1, 0) = BOUNDS_FAULT
            """);
        script.run("all four fields", """
            new(16, 4)
            alloc(0, 4) = 0 | *
            alloc(1, 5) = 4 | *
            addAddr(1, 7) = OK | *
            addAddr(0, 3) = OK | *
            storeCap(0, 1) = OK | *
            loadCap(2, 0) = OK | r2 tag=1 base=4 len=5 addr=11
            loadCap(1, 0) = OK
            loadCap(7, 0) = OK | r7 tag=1 base=4 len=5 addr=11
            """);
        script.run("over the register that is used", """
            new(16, 4)
            alloc(0, 4) = 0 | *
            alloc(1, 5) = 4 | *
            addAddr(1, 2) = OK | *
            storeCap(0, 1) = OK | *
            loadCap(0, 0) = OK | r0 base=4 len=5 addr=6
            """);
        script.run("a word of data unmakes a capability", """
            new(16, 4)
            alloc(0, 4) = 0 | *
            alloc(1, 5) = 4 | *
            storeData(0, 5) = OK | *
            loadCap(1, 0) = OK | r1 tag=0 base=0 len=0 addr=5
            loadData(1) = TAG_FAULT
            loadCap(0, 0) = OK | r0 tag=0 base=0 len=0 addr=5
            """);
        script.run("a revoked capability comes back without its tag", """
            new(16, 4)
            alloc(0, 2) = 0 | *
            alloc(1, 4) = 2 | *
            addAddr(1, 1) = OK | *
            storeCap(0, 1) = OK | *
            free(1) = OK_SWEPT | *
            loadCap(3, 0) = OK | r3 base=2 len=4 addr=3
            loadData(3) = TAG_FAULT
            """);
        script.run("from quarantine", """
            new(16, 8)
            alloc(0, 2) = 0 | *
            alloc(1, 4) = 2 | *
            storeCap(0, 1) = OK | *
            free(0) = OK | *
            loadCap(3, 0) = OK | r3 tag=1 base=2 len=4 addr=2
            sweep() = 1 | *
            loadCap(3, 0) = TAG_FAULT
            loadData(3) = OK
            """);
        script.end();
    }
}
