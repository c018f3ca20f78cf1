/** The edges that promise 12 names. A run bears the sentence that it tests. */
public final class Edges12RegTest {
    public static void main(String[] args) {
        Script script = new Script();
        String refused = "if r is not in 0..7, or field is not one of `F_TAG`, `F_BASE`, `F_LEN`, `F_ADDR`, the answer is -1";
        for (String r : new String[] {"-1", "8", "9", "MIN", "MAX"}) {
            script.run(refused, (Busy.MACHINE + """
                reg($r, F_TAG) = -1
                reg($r, F_BASE) = -1
                reg($r, F_LEN) = -1
                reg($r, F_ADDR) = -1
                reg($r, 4) = -1
                reg($r, -1) = -1
                """).replace("$r", r));
        }
        for (int r = 0; r < 8; r++) {
            script.run(refused, (Busy.MACHINE + """
                reg($r, -1) = -1
                reg($r, 6) = -1
                reg($r, 7) = -1
                reg($r, MIN) = -1
                reg($r, MAX) = -1
                """).replace("$r", "" + r));
            script.run("`F_OWNER` and `F_STATE` are refused for registers.", (Busy.MACHINE + """
                reg($r, F_OWNER) = -1
                reg($r, F_STATE) = -1
                """).replace("$r", "" + r));
        }
        fields(script);
        script.end();
    }

    private static void fields(Script script) {
        script.run("for `F_TAG` 1 if tagged else 0, for the others the int value", Busy.MACHINE + """
            # the first register, revoked, and the last one, new
            reg(0, F_TAG) = 0
            reg(0, F_BASE) = 0
            reg(0, F_LEN) = 2
            reg(0, F_ADDR) = 0
            reg(7, F_TAG) = 0
            reg(7, F_BASE) = 0
            reg(7, F_LEN) = 0
            reg(7, F_ADDR) = 0
            # tagged, to live memory and to the quarantine
            reg(2, F_TAG) = 1
            reg(2, F_BASE) = 5
            reg(2, F_LEN) = 4
            reg(2, F_ADDR) = 6
            reg(3, F_TAG) = 1
            reg(3, F_BASE) = 9
            reg(3, F_LEN) = 2
            reg(3, F_ADDR) = 10
            """);
        script.run("for the others the int value", """
            new(64, 64)
            alloc(0, 63) = 0 | *
            alloc(7, 1) = 63 | *
            reg(7, F_BASE) = 63
            reg(0, F_LEN) = 63
            addAddr(7, MIN) = OK | *
            reg(7, F_ADDR) = -2147483585
            addAddr(6, MAX) = OK | *
            reg(6, F_ADDR) = MAX
            addAddr(6, 1) = OK | *
            reg(6, F_ADDR) = MIN
            """);
        script.run("A field whose value is -1 gives the same answer as a refused query. It changes nothing.", """
            new(8, 64)
            addAddr(7, -1) = OK | r7 addr=-1
            reg(7, F_ADDR) = -1
            reg(7, F_ADDR) = -1
            alloc(0, 1) = 0 | *
            addAddr(0, -1) = OK | r0 addr=-1
            reg(0, F_ADDR) = -1
            """);
    }
}
