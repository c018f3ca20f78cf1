/** Promise 9: loadData and loadedValue. */
public final class Promise09LoadDataTest {
    public static void main(String[] args) {
        Script script = new Script();
        script.run("wrong inputs leave the loaded value alone", """
            new(16, 4)
            loadedValue() = 0
            alloc(0, 4) = 0 | *
            storeData(0, 42) = OK | *
            loadData(0) = OK | loaded=42
            loadedValue() = 42
            loadData(-1) = BAD_REG
            loadData(8) = BAD_REG
            loadData(MIN) = BAD_REG
            loadData(MAX) = BAD_REG
            loadData(1) = TAG_FAULT
            addAddr(1, 50) = OK | *
            loadData(1) = TAG_FAULT
            addAddr(0, 4) = OK | *
            loadData(0) = BOUNDS_FAULT
            addAddr(0, -5) = OK | *
            loadData(0) = BOUNDS_FAULT
            addAddr(0, MIN) = OK | *
            loadData(0) = BOUNDS_FAULT
            loadedValue() = 42
            """);
        script.run("both ends of the bounds", """
            new(8, 4)
            alloc(0, 2) = 0 | *
            alloc(1, 6) = 2 | *
            storeData(1, -1) = OK | *
            loadData(1) = OK | loaded=-1
            loadedValue() = -1
            addAddr(1, 5) = OK | *
            storeData(1, MIN) = OK | *
            loadData(1) = OK | loaded=MIN
            addAddr(1, 1) = OK | *
            loadData(1) = BOUNDS_FAULT
            addAddr(1, -7) = OK | *
            loadData(1) = BOUNDS_FAULT
            loadedValue() = MIN
            loadData(0) = OK | loaded=0
            """);
        script.run("a word that holds a capability gives its address", """
            new(16, 4)
            alloc(0, 2) = 0 | *
            alloc(1, 4) = 2 | *
            addAddr(1, 3) = OK | *
            storeCap(0, 1) = OK | *
            loadData(0) = OK | loaded=5
            loadedValue() = 5
            """);
        script.run("from quarantine, and not after the sweep", """
            new(16, 4)
            alloc(0, 2) = 0 | *
            storeData(0, 8) = OK | *
            free(0) = OK | *
            loadData(0) = OK | loaded=8
            sweep() = 1 | r0 tag=0 | w0 value=0 | w0-1 owner=0 state=FREE | quar=0 free=16 largest=16 sweeps=1
            loadData(0) = TAG_FAULT
            loadedValue() = 8
            """);
        script.run("the loaded value is a copy", """
            new(8, 4)
            alloc(0, 2) = 0 | *
            storeData(0, 3) = OK | *
            loadData(0) = OK | loaded=3
            storeData(0, 4) = OK | w0 value=4
            loadedValue() = 3
            loadCap(1, 0) = OK | r1 addr=4
            loadedValue() = 3
            """);
        script.end();
    }
}
