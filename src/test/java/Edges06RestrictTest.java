/** The edges that promise 6 names. A run bears the sentence that it tests. */
public final class Edges06RestrictTest {
    public static void main(String[] args) {
        Script script = new Script();
        registersAndTag(script);
        bounds(script);
        sums(script);
        narrowest(script);
        sameRegister(script);
        script.end();
    }

    private static void registersAndTag(Script script) {
        script.run("rd not in 0..7, then rs not in 0..7: `BAD_REG`.", Busy.MACHINE + """
            restrict(-1, 1, 0, 1) = BAD_REG
            restrict(8, 1, 0, 1) = BAD_REG
            restrict(MIN, 1, 0, 1) = BAD_REG
            restrict(MAX, 1, 0, 1) = BAD_REG
            restrict(2, -1, 0, 1) = BAD_REG
            restrict(2, 8, 0, 1) = BAD_REG
            restrict(2, MIN, 0, 1) = BAD_REG
            restrict(2, MAX, 0, 1) = BAD_REG
            """);
        script.run("rs untagged: `TAG_FAULT`.", Busy.MACHINE + """
            # revoked, never tagged, new; onto another register and onto itself
            restrict(1, 0, 0, 1) = TAG_FAULT
            restrict(1, 6, 0, 1) = TAG_FAULT
            restrict(1, 7, 0, 1) = TAG_FAULT
            restrict(0, 0, 0, 2) = TAG_FAULT
            """);
        script.run("`restrict(rd, rs, off, len)` tests in order", Busy.MACHINE + """
            # a wrong register before a missing tag before wrong bounds
            restrict(8, 0, -1, 0) = BAD_REG
            restrict(8, 1, -1, 0) = BAD_REG
            restrict(1, 8, -1, 0) = BAD_REG
            restrict(1, 0, -1, 0) = TAG_FAULT
            restrict(1, 0, MAX, MAX) = TAG_FAULT
            """);
    }

    /** Register 2 of the busy machine has len 4. */
    private static void bounds(Script script) {
        script.run("off < 0", Busy.MACHINE + """
            restrict(7, 2, -1, 1) = BAD_BOUNDS
            restrict(7, 2, -1, 4) = BAD_BOUNDS
            restrict(7, 2, -4, 4) = BAD_BOUNDS
            restrict(7, 2, MIN, 1) = BAD_BOUNDS
            restrict(7, 2, 0, 1) = OK | r7 tag=1 base=5 len=1 addr=5
            """);
        script.run("len < 1", Busy.MACHINE + """
            restrict(7, 2, 0, 0) = BAD_BOUNDS
            restrict(7, 2, 3, 0) = BAD_BOUNDS
            restrict(7, 2, 4, 0) = BAD_BOUNDS
            restrict(7, 2, 4, -1) = BAD_BOUNDS
            restrict(7, 2, 1, MIN) = BAD_BOUNDS
            restrict(7, 2, 3, 1) = OK | r7 tag=1 base=8 len=1 addr=8
            """);
        script.run("off + len > len of rs", Busy.MACHINE + """
            restrict(7, 2, 0, 5) = BAD_BOUNDS
            restrict(7, 2, 1, 4) = BAD_BOUNDS
            restrict(7, 2, 3, 2) = BAD_BOUNDS
            restrict(7, 2, 4, 1) = BAD_BOUNDS
            restrict(7, 2, 5, 1) = BAD_BOUNDS
            # just as much as there is
            restrict(7, 2, 0, 4) = OK | r7 tag=1 base=5 len=4 addr=5
            restrict(7, 2, 1, 3) = OK | r7 base=6 len=3 addr=6
            restrict(7, 2, 3, 1) = OK | r7 base=8 len=1 addr=8
            """);
    }

    private static void sums(Script script) {
        script.run("(compared as exact integers): `BAD_BOUNDS`.", Busy.MACHINE + """
            restrict(7, 2, MAX, 1) = BAD_BOUNDS
            restrict(7, 2, 1, MAX) = BAD_BOUNDS
            restrict(7, 2, MAX, MAX) = BAD_BOUNDS
            restrict(7, 2, 2147483646, 3) = BAD_BOUNDS
            restrict(7, 2, 3, 2147483646) = BAD_BOUNDS
            restrict(7, 2, 1073741824, 1073741824) = BAD_BOUNDS
            # these sums wrap to 0 and to 1
            restrict(7, 2, MIN, MIN) = BAD_BOUNDS
            restrict(7, 2, MIN, -2147483647) = BAD_BOUNDS
            # these sums are -1 and need no wrapping
            restrict(7, 2, MIN, MAX) = BAD_BOUNDS
            restrict(7, 2, MAX, MIN) = BAD_BOUNDS
            """);
    }

    private static void narrowest(Script script) {
        script.run("register rd becomes tagged with base b, len len, addr b", """
            new(8, 64)
            alloc(0, 7) = 0 | *
            alloc(1, 1) = 7 | *
            # the last word of the heap, of which nothing narrower can be made
            restrict(2, 1, 0, 1) = OK | r2 tag=1 base=7 len=1 addr=7
            restrict(2, 2, 0, 1) = OK
            restrict(2, 2, 1, 1) = BAD_BOUNDS
            restrict(2, 2, 0, 2) = BAD_BOUNDS
            """);
        script.run("off + len > len of rs", """
            new(16, 64)
            alloc(0, 8) = 0 | *
            # the bounds are those of the part, not those of the block
            restrict(1, 0, 2, 4) = OK | r1 tag=1 base=2 len=4 addr=2
            restrict(2, 1, 0, 5) = BAD_BOUNDS
            restrict(2, 1, 4, 1) = BAD_BOUNDS
            restrict(2, 1, -2, 4) = BAD_BOUNDS
            restrict(2, 1, 3, 1) = OK | r2 tag=1 base=5 len=1 addr=5
            """);
        script.run("rs untagged: `TAG_FAULT`.", Busy.MACHINE + """
            # to quarantined memory the tag still stands, until the sweep
            restrict(7, 3, 1, 1) = OK | r7 tag=1 base=10 len=1 addr=10
            sweep() = 5 | *
            restrict(7, 3, 1, 1) = TAG_FAULT
            """);
    }

    private static void sameRegister(Script script) {
        for (String delta : new String[] {"-3", "-2", "1", "100", "MAX", "MIN"}) {
            script.run("The addr of rs plays no part.", (Busy.MACHINE + """
                addAddr(2, $d) = OK | *
                restrict(7, 2, 1, 3) = OK | r7 tag=1 base=6 len=3 addr=6
                restrict(7, 2, 1, 4) = BAD_BOUNDS
                """).replace("$d", delta));
        }
        script.run("rd may equal rs; the values of rs are taken before rd is overwritten.", Busy.MACHINE + """
            restrict(2, 2, 1, 3) = OK | r2 base=6 len=3
            restrict(2, 2, 1, 2) = OK | r2 base=7 len=2 addr=7
            restrict(2, 2, 1, 1) = OK | r2 base=8 len=1 addr=8
            restrict(2, 2, 0, 1) = OK
            restrict(2, 2, 1, 1) = BAD_BOUNDS
            """);
        script.run("Nothing else changes. The answer is `OK`.", Busy.MACHINE + """
            # over a revoked one, over one that was never tagged, and over another block's
            restrict(0, 2, 2, 2) = OK | r0 tag=1 base=7 len=2 addr=7
            restrict(6, 2, 2, 2) = OK | r6 tag=1 base=7 len=2 addr=7
            restrict(1, 2, 2, 2) = OK | r1 base=7 len=2 addr=7
            """);
    }
}
