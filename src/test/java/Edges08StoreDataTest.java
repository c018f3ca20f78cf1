/** The edges that promise 8 names. A run bears the sentence that it tests. */
public final class Edges08StoreDataTest {
    public static void main(String[] args) {
        Script script = new Script();
        refused(script);
        stored(script);
        script.end();
    }

    private static void refused(Script script) {
        script.run("if r is not in 0..7 the answer is `BAD_REG`", Busy.MACHINE + """
            storeData(-1, 5) = BAD_REG
            storeData(8, 5) = BAD_REG
            storeData(MIN, 5) = BAD_REG
            storeData(MAX, 5) = BAD_REG
            """);
        String fault = "the dereference check of r is made, answering `TAG_FAULT` or `BOUNDS_FAULT` when it fails. "
            + "On these answers nothing changes.";
        script.run(fault, Busy.MACHINE + """
            storeData(0, 5) = TAG_FAULT
            storeData(6, 5) = TAG_FAULT
            storeData(7, 5) = TAG_FAULT
            # without a tag at the address of a live word too, and outside everything
            addAddr(7, 5) = OK | r7 addr=5
            storeData(7, 5) = TAG_FAULT
            addAddr(7, 59) = OK | r7 addr=64
            storeData(7, 5) = TAG_FAULT
            """);
        script.run(fault, Busy.MACHINE + """
            # register 5 reaches 3-4 alone; the words beside are its own block's or another's
            addAddr(5, -1) = OK | r5 addr=2
            storeData(5, 5) = BOUNDS_FAULT
            addAddr(5, 3) = OK | r5 addr=5
            storeData(5, 5) = BOUNDS_FAULT
            addAddr(5, 11) = OK | r5 addr=16
            storeData(5, 5) = BOUNDS_FAULT
            addAddr(5, -17) = OK | r5 addr=-1
            storeData(5, 5) = BOUNDS_FAULT
            """);
    }

    private static void stored(Script script) {
        String word = "word w gets value v, tag false, cbase 0 and clen 0";
        script.run(word, Busy.MACHINE + """
            # over a capability to the quarantine, one to live memory, a revoked one, data, and an empty word
            storeData(2, 5) = OK | w6 tag=0 base=0 len=0 value=5
            addAddr(2, -1) = OK | r2 addr=5
            storeData(2, 6) = OK | w5 tag=0 base=0 len=0 value=6
            addAddr(2, 3) = OK | r2 addr=8
            storeData(2, 7) = OK | w8 len=0 value=7
            storeData(2, 8) = OK | w8 value=8
            addAddr(2, -1) = OK | r2 addr=7
            storeData(2, 9) = OK | w7 value=9
            """);
        script.run(word, Busy.MACHINE + """
            storeData(1, MAX) = OK | w2 value=MAX
            storeData(1, MIN) = OK | w2 value=MIN
            storeData(1, -1) = OK | w2 value=-1
            storeData(1, 0) = OK | w2 value=0
            """);
        script.run(word, """
            new(64, 64)
            alloc(0, 64) = 0 | *
            # the first word and the last one of the widest heap
            storeData(0, 1) = OK | w0 value=1
            addAddr(0, 63) = OK | r0 addr=63
            storeData(0, 2) = OK | w63 value=2
            addAddr(0, 1) = OK | r0 addr=64
            storeData(0, 3) = BOUNDS_FAULT
            """);
        script.run("its owner and state are unchanged, whatever the state is", Busy.MACHINE + """
            # words 9 and 10 are QUAR, word 9 with a capability in it
            storeData(3, 5) = OK | w10 value=5
            addAddr(3, -1) = OK | r3 addr=9
            storeData(3, 6) = OK | w9 tag=0 base=0 len=0 value=6
            mem(9, F_STATE) = QUAR
            mem(9, F_OWNER) = 4
            storeData(1, 7) = OK | w2 value=7
            mem(2, F_STATE) = LIVE
            mem(2, F_OWNER) = 2
            """);
        script.run("Registers and counters are unchanged. The answer is `OK`.", Busy.MACHINE + """
            # word 2 is the one that was loaded from
            storeData(1, 5) = OK | w2 value=5
            loadedValue() = 41
            """);
    }
}
