/** The edges that promise 10 names. A run bears the sentence that it tests. */
public final class Edges10StoreCapTest {
    public static void main(String[] args) {
        Script script = new Script();
        refused(script);
        stored(script);
        script.end();
    }

    private static void refused(Script script) {
        String registers = "if r is not in 0..7, or else rs is not in 0..7, the answer is `BAD_REG`";
        script.run(registers, Busy.MACHINE + """
            storeCap(-1, 2) = BAD_REG
            storeCap(8, 2) = BAD_REG
            storeCap(MIN, 2) = BAD_REG
            storeCap(MAX, 2) = BAD_REG
            """);
        script.run(registers, Busy.MACHINE + """
            storeCap(1, -1) = BAD_REG
            storeCap(1, 8) = BAD_REG
            storeCap(1, MIN) = BAD_REG
            storeCap(1, MAX) = BAD_REG
            storeCap(8, 8) = BAD_REG
            """);
        String fault = "the dereference check of r is made, answering `TAG_FAULT` or `BOUNDS_FAULT` when it fails. "
            + "On these answers nothing changes.";
        script.run(fault, Busy.MACHINE + """
            # the tag of r is looked at, not that of rs
            storeCap(0, 1) = TAG_FAULT
            storeCap(6, 1) = TAG_FAULT
            storeCap(7, 1) = TAG_FAULT
            storeCap(0, 0) = TAG_FAULT
            # a missing register is found first
            storeCap(0, 8) = BAD_REG
            """);
        script.run(fault, Busy.MACHINE + """
            addAddr(5, -1) = OK | r5 addr=2
            storeCap(5, 1) = BOUNDS_FAULT
            addAddr(5, 3) = OK | r5 addr=5
            storeCap(5, 1) = BOUNDS_FAULT
            storeCap(5, 5) = BOUNDS_FAULT
            storeCap(5, 0) = BOUNDS_FAULT
            storeCap(5, 8) = BAD_REG
            addAddr(5, 11) = OK | r5 addr=16
            storeCap(5, 1) = BOUNDS_FAULT
            addAddr(5, -17) = OK | r5 addr=-1
            storeCap(5, 1) = BOUNDS_FAULT
            """);
    }

    private static void stored(Script script) {
        String all = "word w gets tag = tag of rs, cbase = base of rs, clen = len of rs, value = addr of rs, "
            + "all read before writing";
        script.run(all, Busy.MACHINE + """
            # over data, over another capability, and with an address far outside the bounds
            storeCap(1, 2) = OK | w2 tag=1 base=5 len=4 value=6
            storeCap(1, 5) = OK | w2 base=3 len=2 value=3
            addAddr(5, MIN) = OK | r5 addr=-2147483645
            storeCap(1, 5) = OK | w2 value=-2147483645
            """);
        script.run(all, """
            new(64, 64)
            alloc(0, 64) = 0 | *
            storeCap(0, 0) = OK | w0 tag=1 len=64
            addAddr(0, 63) = OK | r0 addr=63
            storeCap(0, 0) = OK | w63 tag=1 len=64 value=63
            addAddr(0, 1) = OK | r0 addr=64
            storeCap(0, 0) = BOUNDS_FAULT
            """);
        script.run("rs need not be tagged; an untagged rs writes tag false together with its three other fields.",
            Busy.MACHINE + """
            # revoked, with its bounds; never tagged, with an address; new, with nothing
            storeCap(2, 0) = OK | w6 tag=0 base=0 len=2 value=0
            storeCap(2, 6) = OK | w6 len=0 value=-5
            storeCap(2, 7) = OK | w6 value=0
            sweep() = 3 | *
            storeCap(2, 3) = OK | w6 base=9 len=2 value=10
            """);
        script.run("r may equal rs.", Busy.MACHINE + """
            storeCap(2, 2) = OK | w6 base=5 len=4 value=6
            storeCap(5, 5) = OK | w3 tag=1 base=3 len=2 value=3
            storeCap(3, 3) = OK | w10 tag=1 base=9 len=2 value=10
            """);
        script.run("The owner and state of w are unchanged, and registers and counters are unchanged. The answer is `OK`.",
            Busy.MACHINE + """
            # into a word in quarantine, and then the sweep wipes it
            storeCap(4, 1) = OK | w10 tag=1 base=2 len=3 value=2
            mem(10, F_STATE) = QUAR
            mem(10, F_OWNER) = 4
            sweep() = 4 | r3-4 tag=0 | w6 tag=0 | w9-10 tag=0 base=0 len=0 value=0 owner=0 state=FREE \
                | quar=0 free=9 largest=7 sweeps=2
            """);
    }
}
