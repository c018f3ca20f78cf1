/** The edges that promise 13 names. A run bears the sentence that it tests. */
public final class Edges13MemTest {
    public static void main(String[] args) {
        Script script = new Script();
        refused(script);
        fields(script);
        script.end();
    }

    private static void refused(Script script) {
        String sentence = "if addr is not in 0..H-1, or field is not in `F_TAG`..`F_STATE` (0..5), the answer is -1";
        for (int heap : new int[] {8, 9, 33, 63, 64}) {
            String text = """
                new($h, 64)
                mem($last, F_OWNER) = 0
                mem(-1, F_OWNER) = -1
                mem($h, F_TAG) = -1
                mem($h, F_BASE) = -1
                mem($h, F_LEN) = -1
                mem($h, F_ADDR) = -1
                mem($h, F_OWNER) = -1
                mem($h, F_STATE) = -1
                mem(64, F_STATE) = -1
                mem(65, F_STATE) = -1
                mem(MIN, F_STATE) = -1
                mem(MAX, F_STATE) = -1
                """;
            script.run(sentence, text.replace("$h", "" + heap).replace("$last", "" + (heap - 1)));
        }
        for (int heap = 8; heap < 64; heap++) {
            // No word beyond a small heap can be seen, up to where the widest one would end.
            for (int addr = heap; addr < 64; addr++) {
                script.run(sentence, "new(" + heap + ", 64)\nmem(" + addr + ", F_STATE) = -1\n");
            }
        }
        for (int w = 0; w < 16; w++) {
            script.run(sentence, (Busy.MACHINE + """
                mem($w, -1) = -1
                mem($w, 6) = -1
                mem($w, 7) = -1
                mem($w, MIN) = -1
                mem($w, MAX) = -1
                """).replace("$w", "" + w));
        }
        script.run(sentence, Busy.MACHINE + """
            mem(16, 6) = -1
            mem(-1, -1) = -1
            mem(MIN, MAX) = -1
            """);
    }

    private static void fields(Script script) {
        script.run("`F_TAG` 1 if tagged else 0; `F_BASE` cbase; `F_LEN` clen; `F_ADDR` value; `F_OWNER` owner (0 for none); "
            + "`F_STATE` one of `FREE`, `LIVE`, `QUAR`.", Busy.MACHINE + """
            # live and tagged
            mem(6, F_TAG) = 1
            mem(6, F_BASE) = 9
            mem(6, F_LEN) = 2
            mem(6, F_ADDR) = 10
            mem(6, F_OWNER) = 3
            mem(6, F_STATE) = LIVE
            # live and revoked
            mem(8, F_TAG) = 0
            mem(8, F_LEN) = 2
            mem(8, F_OWNER) = 3
            mem(8, F_STATE) = LIVE
            # in quarantine, tagged and not
            mem(9, F_TAG) = 1
            mem(9, F_BASE) = 9
            mem(9, F_OWNER) = 4
            mem(9, F_STATE) = QUAR
            mem(10, F_TAG) = 0
            mem(10, F_ADDR) = -7
            mem(10, F_STATE) = QUAR
            # free, at either end
            mem(0, F_OWNER) = 0
            mem(0, F_STATE) = FREE
            mem(15, F_TAG) = 0
            mem(15, F_BASE) = 0
            mem(15, F_LEN) = 0
            mem(15, F_ADDR) = 0
            mem(15, F_OWNER) = 0
            mem(15, F_STATE) = FREE
            """);
        script.run("A field whose value is -1 gives the same answer as a refused query. It changes nothing.", """
            new(8, 64)
            alloc(0, 8) = 0 | *
            storeData(0, -1) = OK | w0 value=-1
            mem(0, F_ADDR) = -1
            mem(0, F_ADDR) = -1
            mem(0, F_STATE) = LIVE
            addAddr(0, 7) = OK | *
            storeData(0, -1) = OK | w7 value=-1
            mem(7, F_ADDR) = -1
            """);
    }
}
