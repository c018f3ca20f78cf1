/** The edges that promise 11 names. A run bears the sentence that it tests. */
public final class Edges11LoadCapTest {
    public static void main(String[] args) {
        Script script = new Script();
        refused(script);
        loaded(script);
        script.end();
    }

    private static void refused(Script script) {
        String registers = "if rd is not in 0..7, or else r is not in 0..7, the answer is `BAD_REG`";
        script.run(registers, Busy.MACHINE + """
            loadCap(-1, 2) = BAD_REG
            loadCap(8, 2) = BAD_REG
            loadCap(MIN, 2) = BAD_REG
            loadCap(MAX, 2) = BAD_REG
            """);
        script.run(registers, Busy.MACHINE + """
            loadCap(1, -1) = BAD_REG
            loadCap(1, 8) = BAD_REG
            loadCap(1, MIN) = BAD_REG
            loadCap(1, MAX) = BAD_REG
            loadCap(8, 8) = BAD_REG
            """);
        String fault = "the dereference check of r is made, answering `TAG_FAULT` or `BOUNDS_FAULT` when it fails. "
            + "On these answers nothing changes.";
        script.run(fault, Busy.MACHINE + """
            # the tag of r is looked at, not that of rd
            loadCap(1, 0) = TAG_FAULT
            loadCap(1, 6) = TAG_FAULT
            loadCap(1, 7) = TAG_FAULT
            loadCap(0, 0) = TAG_FAULT
            # a missing register is found first
            loadCap(8, 0) = BAD_REG
            """);
        script.run(fault, Busy.MACHINE + """
            addAddr(5, -1) = OK | r5 addr=2
            loadCap(1, 5) = BOUNDS_FAULT
            addAddr(5, 3) = OK | r5 addr=5
            loadCap(1, 5) = BOUNDS_FAULT
            loadCap(5, 5) = BOUNDS_FAULT
            loadCap(8, 5) = BAD_REG
            addAddr(5, 11) = OK | r5 addr=16
            loadCap(1, 5) = BOUNDS_FAULT
            addAddr(5, -17) = OK | r5 addr=-1
            loadCap(1, 5) = BOUNDS_FAULT
            """);
    }

    private static void loaded(Script script) {
        String all = "register rd gets tag = tag of w, base = cbase of w, len = clen of w, addr = value of w";
        script.run(all, Busy.MACHINE + """
            # a tagged word over new, over revoked, over tagged
            loadCap(7, 2) = OK | r7 tag=1 base=9 len=2 addr=10
            loadCap(0, 2) = OK | r0 tag=1 base=9 len=2 addr=10
            loadCap(1, 2) = OK | r1 base=9 len=2 addr=10
            """);
        script.run(all, Busy.MACHINE + """
            # a revoked word, a number and an empty word take the tag of rd away
            addAddr(2, 2) = OK | r2 addr=8
            loadCap(4, 2) = OK | r4 tag=0 base=0 len=2 addr=0
            loadCap(5, 1) = OK | r5 tag=0 base=0 len=0 addr=41
            addAddr(2, -1) = OK | r2 addr=7
            loadCap(3, 2) = OK | r3 tag=0 base=0 len=0 addr=0
            """);
        script.run(all, """
            new(64, 64)
            alloc(0, 64) = 0 | *
            storeData(0, 5) = OK | *
            loadCap(1, 0) = OK | r1 addr=5
            addAddr(0, 63) = OK | r0 addr=63
            storeCap(0, 0) = OK | *
            loadCap(1, 0) = OK | r1 tag=1 len=64 addr=63
            addAddr(0, 1) = OK | r0 addr=64
            loadCap(1, 0) = BOUNDS_FAULT
            """);
        String same = "The target word w is fixed by the check before rd is written, so rd may equal r.";
        script.run(same, Busy.MACHINE + """
            loadCap(2, 2) = OK | r2 base=9 len=2 addr=10
            # and from there, in quarantine, a number
            loadCap(2, 2) = OK | r2 tag=0 base=0 len=0 addr=-7
            loadCap(2, 2) = TAG_FAULT
            """);
        script.run(same, Busy.MACHINE + """
            addAddr(2, -1) = OK | r2 addr=5
            loadCap(2, 2) = OK | r2 base=2 len=3 addr=2
            """);
        script.run("The word itself is not changed, nor are other registers or counters. The answer is `OK`.",
            Busy.MACHINE + """
            # out of quarantine as well, and twice the same
            addAddr(3, -1) = OK | r3 addr=9
            loadCap(7, 3) = OK | r7 tag=1 base=9 len=2 addr=9
            loadCap(7, 3) = OK
            loadedValue() = 41
            """);
    }
}
