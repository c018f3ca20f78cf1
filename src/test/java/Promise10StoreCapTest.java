/** Promise 10: storeCap. */
public final class Promise10StoreCapTest {
    public static void main(String[] args) {
        Script script = new Script();
        script.run("wrong inputs", """
            new(16, 4)
            alloc(0, 4) = 0 | *
            storeCap(-1, 0) = BAD_REG
            storeCap(8, 0) = BAD_REG
            storeCap(0, -1) = BAD_REG
            storeCap(0, 8) = BAD_REG
            storeCap(MAX, MIN) = BAD_REG
            # the registers are looked at before the tag and the bounds
            storeCap(1, 8) = BAD_REG
            storeCap(1, 0) = TAG_FAULT
            addAddr(0, 4) = OK | *
            storeCap(0, 8) = BAD_REG
            storeCap(0, 0) = BOUNDS_FAULT
            addAddr(0, -5) = OK | *
            storeCap(0, 1) = BOUNDS_FAULT
            addAddr(1, 2) = OK | *
            storeCap(1, 0) = TAG_FAULT
            """);
        script.run("all four fields", """
            new(16, 4)
            alloc(0, 4) = 0 | *
            alloc(1, 5) = 4 | *
            addAddr(1, 7) = OK | *
            storeCap(0, 1) = OK | w0 tag=1 base=4 len=5 value=11
            addAddr(0, 3) = OK | *
            storeCap(0, 1) = OK | w3 tag=1 base=4 len=5 value=11
            restrict(2, 1, 1, 2) = OK | *
            storeCap(0, 2) = OK | w3 base=5 len=2 value=5
            """);
        script.run("a register through itself", """
            new(16, 4)
            alloc(0, 4) = 0 | *
            alloc(1, 4) = 4 | *
            addAddr(1, 2) = OK | *
            storeCap(1, 1) = OK | w6 tag=1 base=4 len=4 value=6
            """);
        script.run("an untagged source", """
            new(16, 4)
            alloc(0, 4) = 0 | *
            alloc(1, 5) = 4 | *
            storeCap(0, 0) = OK | *
            free(1) = OK_SWEPT | *
            addAddr(1, 3) = OK | *
            storeCap(0, 1) = OK | w0 tag=0 base=4 len=5 value=7
            storeCap(0, 7) = OK | w0 base=0 len=0 value=0
            addAddr(7, -3) = OK | *
            storeCap(0, 7) = OK | w0 value=-3
            """);
        script.run("into quarantine, and of a quarantined capability", """
            new(16, 8)
            alloc(0, 2) = 0 | *
            alloc(1, 2) = 2 | *
            free(0) = OK | *
            storeCap(0, 1) = OK | w0 tag=1 base=2 len=2 value=2
            storeCap(1, 0) = OK | w2 tag=1 len=2
            sweep() = 2 | r0 tag=0 | w0 tag=0 base=0 len=0 value=0 | w0-1 owner=0 state=FREE | w2 tag=0 \
                | quar=0 free=14 sweeps=1 largest=12
            storeCap(0, 1) = TAG_FAULT
            """);
        script.end();
    }
}
