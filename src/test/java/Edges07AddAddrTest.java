/** The edges that promise 7 names. A run bears the sentence that it tests. */
public final class Edges07AddAddrTest {
    public static void main(String[] args) {
        Script script = new Script();
        script.run("if r is not in 0..7 the answer is `BAD_REG` and nothing changes", Busy.MACHINE + """
            addAddr(-1, 1) = BAD_REG
            addAddr(8, 1) = BAD_REG
            addAddr(MIN, MIN) = BAD_REG
            addAddr(MAX, MAX) = BAD_REG
            """);
        wrapAround(script);
        fields(script);
        script.end();
    }

    private static void wrapAround(Script script) {
        String sentence = "addr of r becomes addr + delta with 32-bit wrap-around as Java int addition does "
            + "(for example `Integer.MAX_VALUE` plus 1 gives `Integer.MIN_VALUE`)";
        script.run(sentence, Busy.MACHINE + """
            addAddr(2, 2147483641) = OK | r2 addr=MAX
            addAddr(2, 1) = OK | r2 addr=MIN
            """);
        script.run(sentence, Busy.MACHINE + """
            # around the lower end
            addAddr(6, -2147483643) = OK | r6 addr=MIN
            addAddr(6, -1) = OK | r6 addr=MAX
            """);
        script.run(sentence, """
            new(8, 64)
            addAddr(0, MAX) = OK | r0 addr=MAX
            addAddr(0, MAX) = OK | r0 addr=-2
            addAddr(0, MIN) = OK | r0 addr=2147483646
            addAddr(0, MIN) = OK | r0 addr=-2
            addAddr(0, MIN) = OK | r0 addr=2147483646
            addAddr(0, 2) = OK | r0 addr=MIN
            addAddr(0, MIN) = OK | r0 addr=0
            addAddr(0, MIN) = OK | r0 addr=MIN
            addAddr(0, MAX) = OK | r0 addr=-1
            """);
        script.run(sentence, """
            new(8, 64)
            # a delta of nothing, at both ends and in the middle
            addAddr(0, 0) = OK
            addAddr(0, MAX) = OK | r0 addr=MAX
            addAddr(0, 0) = OK
            addAddr(0, 1) = OK | r0 addr=MIN
            addAddr(0, 0) = OK
            """);
    }

    private static void fields(Script script) {
        script.run("Tag, base and len are unchanged, also for an untagged r.", Busy.MACHINE + """
            # live, to the quarantine, narrowed, revoked, never tagged, new
            addAddr(1, 7) = OK | r1 addr=9
            addAddr(3, 7) = OK | r3 addr=17
            addAddr(5, 7) = OK | r5 addr=10
            addAddr(0, 7) = OK | r0 addr=7
            addAddr(6, 7) = OK | r6 addr=2
            addAddr(7, 7) = OK | r7 addr=7
            """);
        String freely = "The address may leave the bounds freely; bounds are checked only on access. The answer is `OK`.";
        script.run(freely, Busy.MACHINE + """
            # below its bounds, below the heap, back, above its bounds, above the heap, back
            addAddr(1, -1) = OK | r1 addr=1
            loadData(1) = BOUNDS_FAULT
            addAddr(1, -2) = OK | r1 addr=-1
            loadData(1) = BOUNDS_FAULT
            addAddr(1, 3) = OK | r1 addr=2
            loadData(1) = OK
            addAddr(1, 3) = OK | r1 addr=5
            loadData(1) = BOUNDS_FAULT
            addAddr(1, 11) = OK | r1 addr=16
            loadData(1) = BOUNDS_FAULT
            addAddr(1, -14) = OK | r1 addr=2
            loadData(1) = OK
            """);
        script.run(freely, Busy.MACHINE + """
            # all the way around and back to where it was
            addAddr(1, MAX) = OK | *
            addAddr(1, MAX) = OK | *
            addAddr(1, 2) = OK | r1 addr=2
            storeData(1, 42) = OK | w2 value=42
            """);
    }
}
