/** Promise 1: any sizes are taken and clamped, and a new machine is empty. */
public final class Promise01ConstructionTest {
    public static void main(String[] args) {
        Script script = new Script();
        script.run("sizes within their limits", """
            new(8, 1)
            new(9, 2)
            new(16, 8)
            new(63, 63)
            new(64, 64)
            """);
        script.run("sizes outside their limits", """
            new(7, 0) | heap=8 threshold=1
            new(0, -1) | heap=8 threshold=1
            new(-1, 65) | heap=8 threshold=64
            new(65, 100) | heap=64 threshold=64
            new(MIN, MIN) | heap=8 threshold=1
            new(MAX, MAX) | heap=64 threshold=64
            new(MIN, MAX) | heap=8 threshold=64
            new(MAX, MIN) | heap=64 threshold=1
            """);
        script.run("the clamped heap is the one in use", """
            new(3, 64) | heap=8
            alloc(0, 9) = BAD_SIZE
            alloc(0, 8) = 0 | r0 tag=1 len=8 | w0-7 owner=1 state=LIVE | free=0 live=8 largest=0 allocs=1
            mem(8, F_STATE) = -1
            """);
        script.run("the clamped threshold is the one in use", """
            new(8, -5) | threshold=1
            alloc(0, 1) = 0 | *
            free(0) = OK_SWEPT | r0 tag=0 | w0 owner=0 state=FREE | free=8 live=0 largest=8 sweeps=1
            """);
        script.run("a threshold above the heap is never reached", """
            new(8, 64)
            alloc(0, 8) = 0 | *
            free(0) = OK | w0-7 state=QUAR | live=0 quar=8
            """);
        script.run("a machine made after others is new", "new(16, 4)");
        script.end();
        twoMachinesStandApart();
    }

    private static void twoMachinesStandApart() {
        RevokeQuarantine one = new RevokeQuarantine(8, 4);
        RevokeQuarantine other = new RevokeQuarantine(8, 4);
        int[] before = Seen.of(other, 8);
        one.alloc(0, 4);
        one.storeData(0, 5);
        one.loadData(0);
        one.sweep();
        String differences = Seen.differences(Seen.names(8), Seen.of(other, 8), before);
        if (!differences.isEmpty()) {
            System.out.println("a call on one machine changed another" + differences);
            System.exit(1);
        }
    }
}
