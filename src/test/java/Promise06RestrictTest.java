/** Promise 6: restrict. */
public final class Promise06RestrictTest {
    public static void main(String[] args) {
        Script script = new Script();
        script.run("wrong registers, and no tag", """
            new(16, 4)
            alloc(0, 4) = 0 | *
            restrict(-1, 0, 0, 1) = BAD_REG
            restrict(8, 0, 0, 1) = BAD_REG
            restrict(1, -1, 0, 1) = BAD_REG
            restrict(1, 8, 0, 1) = BAD_REG
            restrict(MIN, MAX, MIN, MIN) = BAD_REG
            restrict(1, 2, 0, 1) = TAG_FAULT
            # registers before the tag, the tag before the bounds
            restrict(8, 2, -1, 0) = BAD_REG
            restrict(1, 2, -1, 0) = TAG_FAULT
            restrict(2, 2, 0, 0) = TAG_FAULT
            """);
        script.run("wrong bounds", """
            new(16, 4)
            alloc(0, 4) = 0 | *
            alloc(1, 6) = 4 | *
            restrict(2, 1, -1, 1) = BAD_BOUNDS
            restrict(2, 1, 0, 0) = BAD_BOUNDS
            restrict(2, 1, 0, -1) = BAD_BOUNDS
            restrict(2, 1, 0, 7) = BAD_BOUNDS
            restrict(2, 1, 1, 6) = BAD_BOUNDS
            restrict(2, 1, 6, 1) = BAD_BOUNDS
            restrict(2, 1, -1, 7) = BAD_BOUNDS
            restrict(2, 1, 7, -1) = BAD_BOUNDS
            restrict(1, 1, 6, 0) = BAD_BOUNDS
            """);
        script.run("sums that would wrap around", """
            new(16, 4)
            alloc(1, 6) = 0 | *
            restrict(2, 1, MAX, 1) = BAD_BOUNDS
            restrict(2, 1, 1, MAX) = BAD_BOUNDS
            restrict(2, 1, MAX, MAX) = BAD_BOUNDS
            restrict(2, 1, MIN, MIN) = BAD_BOUNDS
            restrict(2, 1, MIN, MAX) = BAD_BOUNDS
            restrict(2, 1, MAX, MIN) = BAD_BOUNDS
            """);
        script.run("within bounds", """
            new(16, 4)
            alloc(0, 4) = 0 | *
            alloc(1, 6) = 4 | *
            restrict(2, 1, 0, 6) = OK | r2 tag=1 base=4 len=6 addr=4
            restrict(3, 1, 5, 1) = OK | r3 tag=1 base=9 len=1 addr=9
            restrict(4, 1, 2, 3) = OK | r4 tag=1 base=6 len=3 addr=6
            # of a narrowed capability only a part of that part
            restrict(5, 4, 1, 2) = OK | r5 tag=1 base=7 len=2 addr=7
            restrict(5, 4, 1, 3) = BAD_BOUNDS
            restrict(5, 4, 0, 4) = BAD_BOUNDS
            """);
        script.run("the address plays no part, and the target may be the source", """
            new(16, 4)
            alloc(0, 4) = 0 | *
            alloc(1, 6) = 4 | *
            addAddr(1, 100) = OK | *
            restrict(2, 1, 1, 2) = OK | r2 tag=1 base=5 len=2 addr=5
            restrict(1, 1, 2, 4) = OK | r1 base=6 len=4 addr=6
            restrict(1, 1, 3, 1) = OK | r1 base=9 len=1 addr=9
            restrict(1, 1, 0, 1) = OK
            restrict(1, 1, 0, 2) = BAD_BOUNDS
            """);
        script.run("into quarantined memory, while the tag stands", """
            new(16, 8)
            alloc(0, 4) = 0 | *
            free(0) = OK | *
            restrict(1, 0, 1, 2) = OK | r1 tag=1 base=1 len=2 addr=1
            sweep() = 2 | *
            restrict(1, 0, 1, 2) = TAG_FAULT
            """);
        script.end();
    }
}
