/** Promise 12: reg. */
public final class Promise12RegTest {
    public static void main(String[] args) {
        Script script = new Script();
        script.run("every field", """
            new(16, 4)
            alloc(0, 3) = 0 | *
            alloc(7, 5) = 3 | *
            addAddr(7, 2) = OK | *
            reg(7, F_TAG) = 1
            reg(7, F_BASE) = 3
            reg(7, F_LEN) = 5
            reg(7, F_ADDR) = 5
            reg(0, F_TAG) = 1
            reg(0, F_BASE) = 0
            reg(0, F_LEN) = 3
            reg(0, F_ADDR) = 0
            reg(1, F_TAG) = 0
            addAddr(1, MIN) = OK | *
            reg(1, F_ADDR) = MIN
            addAddr(2, -1) = OK | *
            reg(2, F_ADDR) = -1
            """);
        script.run("refused queries", """
            new(16, 4)
            alloc(0, 3) = 0 | *
            reg(-1, F_TAG) = -1
            reg(8, F_TAG) = -1
            reg(MIN, F_LEN) = -1
            reg(MAX, F_LEN) = -1
            reg(0, F_OWNER) = -1
            reg(0, F_STATE) = -1
            reg(0, 6) = -1
            reg(0, -1) = -1
            reg(0, MIN) = -1
            reg(0, MAX) = -1
            """);
        script.end();
    }
}
