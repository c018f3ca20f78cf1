/** Promise 13: mem. */
public final class Promise13MemTest {
    public static void main(String[] args) {
        Script script = new Script();
        script.run("every field", """
            new(16, 5)
            alloc(0, 3) = 0 | *
            alloc(1, 4) = 3 | *
            addAddr(1, 2) = OK | *
            addAddr(0, 2) = OK | *
            storeCap(0, 1) = OK | *
            mem(2, F_TAG) = 1
            mem(2, F_BASE) = 3
            mem(2, F_LEN) = 4
            mem(2, F_ADDR) = 5
            mem(2, F_OWNER) = 1
            mem(2, F_STATE) = LIVE
            mem(3, F_OWNER) = 2
            mem(7, F_OWNER) = 0
            mem(7, F_STATE) = FREE
            free(0) = OK | *
            mem(2, F_TAG) = 1
            mem(2, F_OWNER) = 1
            mem(2, F_STATE) = QUAR
            free(1) = OK_SWEPT | *
            mem(2, F_TAG) = 0
            mem(2, F_ADDR) = 0
            mem(2, F_OWNER) = 0
            mem(2, F_STATE) = FREE
            """);
        script.run("values of data", """
            new(8, 5)
            alloc(0, 8) = 0 | *
            addAddr(0, 7) = OK | *
            storeData(0, -1) = OK | *
            mem(7, F_ADDR) = -1
            storeData(0, MIN) = OK | *
            mem(7, F_ADDR) = MIN
            storeData(0, MAX) = OK | *
            mem(7, F_ADDR) = MAX
            """);
        script.run("refused queries", """
            new(9, 5)
            alloc(0, 9) = 0 | *
            mem(8, F_STATE) = LIVE
            mem(-1, F_STATE) = -1
            mem(9, F_STATE) = -1
            mem(63, F_TAG) = -1
            mem(64, F_TAG) = -1
            mem(MIN, F_TAG) = -1
            mem(MAX, F_TAG) = -1
            mem(0, -1) = -1
            mem(0, 6) = -1
            mem(0, MIN) = -1
            mem(0, MAX) = -1
            mem(9, 6) = -1
            """);
        script.run("the last word of the widest heap", """
            new(64, 5)
            mem(63, F_STATE) = FREE
            mem(63, F_OWNER) = 0
            mem(64, F_STATE) = -1
            """);
        script.end();
    }
}
