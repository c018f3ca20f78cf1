/** Promise 7: addAddr. */
public final class Promise07AddAddrTest {
    public static void main(String[] args) {
        Script script = new Script();
        script.run("wrong inputs", """
            new(8, 4)
            addAddr(-1, 1) = BAD_REG
            addAddr(8, 1) = BAD_REG
            addAddr(MIN, MIN) = BAD_REG
            addAddr(MAX, MAX) = BAD_REG
            """);
        script.run("a tagged register, within bounds and out of them", """
            new(16, 4)
            alloc(0, 4) = 0 | *
            alloc(1, 4) = 4 | *
            addAddr(1, 3) = OK | r1 addr=7
            addAddr(1, 0) = OK
            addAddr(1, 1) = OK | r1 addr=8
            addAddr(1, -9) = OK | r1 addr=-1
            addAddr(1, 1000) = OK | r1 addr=999
            addAddr(1, -995) = OK | r1 addr=4
            storeData(1, 3) = OK | w4 value=3
            """);
        script.run("an untagged register", """
            new(8, 4)
            addAddr(7, 5) = OK | r7 addr=5
            addAddr(7, -6) = OK | r7 addr=-1
            """);
        script.run("around both ends", """
            new(8, 4)
            alloc(0, 1) = 0 | *
            addAddr(0, MAX) = OK | r0 addr=MAX
            addAddr(0, 1) = OK | r0 addr=MIN
            addAddr(0, -1) = OK | r0 addr=MAX
            addAddr(0, MAX) = OK | r0 addr=-2
            addAddr(0, MIN) = OK | r0 addr=2147483646
            addAddr(1, MIN) = OK | r1 addr=MIN
            addAddr(1, MIN) = OK | r1 addr=0
            """);
        script.end();
    }
}
