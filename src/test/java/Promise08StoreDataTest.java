/** Promise 8: storeData, and the dereference check. */
public final class Promise08StoreDataTest {
    public static void main(String[] args) {
        Script script = new Script();
        script.run("wrong inputs", """
            new(8, 4)
            storeData(-1, 1) = BAD_REG
            storeData(8, 1) = BAD_REG
            storeData(MIN, 1) = BAD_REG
            storeData(MAX, 1) = BAD_REG
            storeData(0, 1) = TAG_FAULT
            storeData(7, 1) = TAG_FAULT
            # the tag is looked at before the bounds
            addAddr(7, 100) = OK | *
            storeData(7, 1) = TAG_FAULT
            """);
        script.run("both ends of the bounds", """
            new(16, 4)
            alloc(0, 4) = 0 | *
            alloc(1, 3) = 4 | *
            alloc(2, 4) = 7 | *
            storeData(1, 10) = OK | w4 value=10
            addAddr(1, 2) = OK | *
            storeData(1, 11) = OK | w6 value=11
            addAddr(1, 1) = OK | *
            storeData(1, 12) = BOUNDS_FAULT
            addAddr(1, -4) = OK | *
            storeData(1, 13) = BOUNDS_FAULT
            """);
        script.run("both ends of the heap", """
            new(8, 4)
            alloc(0, 8) = 0 | *
            storeData(0, -5) = OK | w0 value=-5
            addAddr(0, -1) = OK | *
            storeData(0, 1) = BOUNDS_FAULT
            addAddr(0, 8) = OK | *
            storeData(0, MAX) = OK | w7 value=MAX
            addAddr(0, 1) = OK | *
            storeData(0, 1) = BOUNDS_FAULT
            addAddr(0, 2147483639) = OK | r0 addr=MAX
            storeData(0, 1) = BOUNDS_FAULT
            addAddr(0, 1) = OK | r0 addr=MIN
            storeData(0, 1) = BOUNDS_FAULT
            """);
        script.run("a narrowed capability reaches its own words alone", """
            new(8, 4)
            alloc(0, 8) = 0 | *
            restrict(1, 0, 2, 2) = OK | *
            storeData(1, 1) = OK | w2 value=1
            addAddr(1, 1) = OK | *
            storeData(1, MIN) = OK | w3 value=MIN
            addAddr(1, 1) = OK | *
            storeData(1, 1) = BOUNDS_FAULT
            addAddr(1, -3) = OK | *
            storeData(1, 1) = BOUNDS_FAULT
            """);
        script.run("data over a capability", """
            new(8, 4)
            alloc(0, 2) = 0 | *
            alloc(1, 3) = 2 | *
            storeCap(0, 1) = OK | *
            storeData(0, 77) = OK | w0 tag=0 base=0 len=0 value=77
            # over an untagged one as well
            move(2, 1) = OK | *
            free(1) = OK | *
            sweep() = 2 | *
            storeCap(0, 1) = OK | w0 base=2 len=3 value=2
            storeData(0, 78) = OK | w0 base=0 len=0 value=78
            """);
        script.run("into quarantine, and not after the sweep", """
            new(8, 4)
            alloc(0, 2) = 0 | *
            free(0) = OK | *
            storeData(0, 6) = OK | w0 value=6
            sweep() = 1 | *
            storeData(0, 6) = TAG_FAULT
            """);
        script.end();
    }
}
