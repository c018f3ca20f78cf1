/** The edges that promise 5 names. A run bears the sentence that it tests. */
public final class Edges05MoveTest {
    public static void main(String[] args) {
        Script script = new Script();
        String refused = "if rd is not in 0..7, or else rs is not in 0..7, the answer is `BAD_REG` and nothing changes";
        script.run(refused, Busy.MACHINE + """
            move(-1, 1) = BAD_REG
            move(8, 1) = BAD_REG
            move(MIN, 1) = BAD_REG
            move(MAX, 1) = BAD_REG
            """);
        script.run(refused, Busy.MACHINE + """
            move(2, -1) = BAD_REG
            move(2, 8) = BAD_REG
            move(2, MIN) = BAD_REG
            move(2, MAX) = BAD_REG
            """);
        script.run(refused, Busy.MACHINE + """
            move(-1, -1) = BAD_REG
            move(8, 8) = BAD_REG
            move(MIN, MAX) = BAD_REG
            """);
        String copy = "register rd becomes a copy of all four fields of rs (tag, base, len, addr), "
            + "whether rs is tagged or not; rs is unchanged";
        script.run(copy, Busy.MACHINE + """
            # tagged over new, over revoked, and over tagged
            move(7, 2) = OK | r7 tag=1 base=5 len=4 addr=6
            move(0, 2) = OK | r0 tag=1 base=5 len=4 addr=6
            move(1, 2) = OK | r1 base=5 len=4 addr=6
            """);
        script.run(copy, Busy.MACHINE + """
            # revoked over new, over tagged, and over an address that was never tagged
            move(7, 0) = OK | r7 len=2
            move(2, 0) = OK | r2 tag=0 base=0 len=2 addr=0
            move(6, 0) = OK | r6 len=2 addr=0
            """);
        script.run(copy, Busy.MACHINE + """
            # never tagged, and new, over tagged
            move(1, 6) = OK | r1 tag=0 base=0 len=0 addr=-5
            move(2, 7) = OK | r2 tag=0 base=0 len=0 addr=0
            """);
        for (int r = 0; r < 8; r++) {
            script.run("rd may equal rs, in which case nothing changes. The answer is `OK`.",
                Busy.MACHINE + "move(" + r + ", " + r + ") = OK\n");
        }
        script.end();
    }
}
