/** The edges that promise 9 names. A run bears the sentence that it tests. */
public final class Edges09LoadDataTest {
    public static void main(String[] args) {
        Script script = new Script();
        refused(script);
        loaded(script);
        loadedValue(script);
        script.end();
    }

    private static void refused(Script script) {
        script.run("if r is not in 0..7 the answer is `BAD_REG`", Busy.MACHINE + """
            loadData(-1) = BAD_REG
            loadData(8) = BAD_REG
            loadData(MIN) = BAD_REG
            loadData(MAX) = BAD_REG
            """);
        String fault = "the dereference check of r is made, answering `TAG_FAULT` or `BOUNDS_FAULT` when it fails. "
            + "On these answers nothing changes, and loaded keeps its earlier value.";
        script.run(fault, Busy.MACHINE + """
            loadData(0) = TAG_FAULT
            loadData(6) = TAG_FAULT
            loadData(7) = TAG_FAULT
            addAddr(7, 5) = OK | r7 addr=5
            loadData(7) = TAG_FAULT
            addAddr(7, 59) = OK | r7 addr=64
            loadData(7) = TAG_FAULT
            loadedValue() = 41
            """);
        script.run(fault, Busy.MACHINE + """
            addAddr(5, -1) = OK | r5 addr=2
            loadData(5) = BOUNDS_FAULT
            addAddr(5, 3) = OK | r5 addr=5
            loadData(5) = BOUNDS_FAULT
            addAddr(5, 11) = OK | r5 addr=16
            loadData(5) = BOUNDS_FAULT
            addAddr(5, -17) = OK | r5 addr=-1
            loadData(5) = BOUNDS_FAULT
            loadedValue() = 41
            """);
        script.run("loaded keeps its earlier value", """
            new(8, 64)
            loadData(0) = TAG_FAULT
            loadedValue() = 0
            loadData(8) = BAD_REG
            loadedValue() = 0
            """);
    }

    private static void loaded(Script script) {
        script.run("loaded becomes the value of word w", Busy.MACHINE + """
            # an empty word, and then the greatest and the least number
            addAddr(2, 1) = OK | r2 addr=7
            loadData(2) = OK | loaded=0
            storeData(2, MAX) = OK | w7 value=MAX
            loadData(2) = OK | loaded=MAX
            storeData(2, MIN) = OK | w7 value=MIN
            loadData(2) = OK | loaded=MIN
            storeData(2, -1) = OK | w7 value=-1
            loadData(2) = OK | loaded=-1
            """);
        script.run("loaded becomes the value of word w", """
            new(64, 64)
            alloc(0, 64) = 0 | *
            storeData(0, 1) = OK | w0 value=1
            loadData(0) = OK | loaded=1
            addAddr(0, 63) = OK | r0 addr=63
            storeData(0, 2) = OK | w63 value=2
            loadData(0) = OK | loaded=2
            addAddr(0, 1) = OK | r0 addr=64
            loadData(0) = BOUNDS_FAULT
            """);
        script.run("for a word holding a capability this is the capability's address", Busy.MACHINE + """
            # an address within its bounds, and then one far outside of them
            loadData(2) = OK | loaded=10
            addAddr(1, -100) = OK | r1 addr=-98
            storeCap(2, 1) = OK | w6 base=2 len=3 value=-98
            loadData(2) = OK | loaded=-98
            """);
        script.run("Nothing else changes. The answer is `OK`.", Busy.MACHINE + """
            # from quarantine, a capability and a number
            loadData(3) = OK | loaded=-7
            addAddr(3, -1) = OK | r3 addr=9
            loadData(3) = OK | loaded=9
            """);
    }

    private static void loadedValue(Script script) {
        String sentence = "`loadedValue()` answers loaded: 0 on a fresh object, and afterwards the value taken by the latest "
            + "successful `loadData`. It changes nothing.";
        script.run(sentence, """
            new(8, 64)
            loadedValue() = 0
            loadedValue() = 0
            """);
        script.run(sentence, """
            new(8, 64)
            alloc(0, 2) = 0 | *
            storeData(0, 3) = OK | *
            # stored, but not loaded yet
            loadedValue() = 0
            loadData(0) = OK | loaded=3
            loadedValue() = 3
            addAddr(0, 1) = OK | *
            storeData(0, 4) = OK | *
            loadData(0) = OK | loaded=4
            loadedValue() = 4
            loadedValue() = 4
            """);
        script.run(sentence, """
            new(8, 1)
            alloc(0, 2) = 0 | *
            storeData(0, 3) = OK | *
            loadData(0) = OK | loaded=3
            # the word is overwritten, then freed and wiped
            storeData(0, 9) = OK | w0 value=9
            loadedValue() = 3
            free(0) = OK_SWEPT | *
            loadedValue() = 3
            loadData(0) = TAG_FAULT
            loadedValue() = 3
            """);
    }
}
