/** Promise 5: move. */
public final class Promise05MoveTest {
    public static void main(String[] args) {
        Script script = new Script();
        script.run("wrong inputs", """
            new(8, 4)
            alloc(0, 4) = 0 | *
            move(-1, 0) = BAD_REG
            move(8, 0) = BAD_REG
            move(1, -1) = BAD_REG
            move(1, 8) = BAD_REG
            move(MIN, MAX) = BAD_REG
            move(MAX, MIN) = BAD_REG
            """);
        script.run("all four fields, tagged or not", """
            new(16, 4)
            alloc(0, 3) = 0 | *
            alloc(1, 5) = 3 | *
            addAddr(1, 2) = OK | *
            move(7, 1) = OK | r7 tag=1 base=3 len=5 addr=5
            move(0, 7) = OK | r0 base=3 len=5 addr=5
            free(1) = OK_SWEPT | *
            move(2, 1) = OK | r2 tag=0 base=3 len=5 addr=5
            alloc(3, 2) = 3 | *
            move(3, 1) = OK | r3 tag=0 len=5 addr=5
            move(1, 6) = OK | r1 base=0 len=0 addr=0
            """);
        script.run("onto itself", """
            new(16, 4)
            alloc(0, 3) = 0 | *
            addAddr(0, 9) = OK | *
            move(0, 0) = OK
            move(7, 7) = OK
            """);
        script.end();
    }
}
