/**
 * A small capability machine whose freed memory is kept aside until the
 * capabilities to it are revoked.
 */
public final class RevokeQuarantine {
    public static final int OK = 0;
    public static final int OK_SWEPT = 1;
    public static final int BAD_REG = -1;
    public static final int BAD_SIZE = -2;
    public static final int NO_SPACE = -3;
    public static final int TAG_FAULT = -4;
    public static final int BOUNDS_FAULT = -5;
    public static final int NOT_BLOCK = -6;
    public static final int BAD_BOUNDS = -7;
    public static final int NREGS = 8;
    public static final int FREE = 0;
    public static final int LIVE = 1;
    public static final int QUAR = 2;
    public static final int F_TAG = 0;
    public static final int F_BASE = 1;
    public static final int F_LEN = 2;
    public static final int F_ADDR = 3;
    public static final int F_OWNER = 4;
    public static final int F_STATE = 5;
    public static final int STAT_FREE = 0;
    public static final int STAT_QUAR = 1;
    public static final int STAT_LIVE = 2;
    public static final int STAT_SWEEPS = 3;
    public static final int STAT_LARGEST = 4;
    public static final int STAT_ALLOCS = 5;
    public static final int STAT_HEAP = 6;
    public static final int STAT_THRESHOLD = 7;

    private static final int MIN_HEAP = 8;
    private static final int MAX_HEAP = 64;
    private static final int MIN_THRESHOLD = 1;
    private static final int MAX_THRESHOLD = 64;
    private static final int NO_OWNER = 0;
    private static final int NO_FIT = -1;
    private static final int NO_SUCH_FIELD = -1;

    private final int heapSize;
    private final int sweepThreshold;

    private final boolean[] wordTag = new boolean[MAX_HEAP];
    private final int[] wordBase = new int[MAX_HEAP];
    private final int[] wordLen = new int[MAX_HEAP];
    private final int[] wordValue = new int[MAX_HEAP];
    private final int[] wordOwner = new int[MAX_HEAP];
    private final int[] wordState = new int[MAX_HEAP];

    private final boolean[] regTag = new boolean[NREGS];
    private final int[] regBase = new int[NREGS];
    private final int[] regLen = new int[NREGS];
    private final int[] regAddr = new int[NREGS];

    private int allocs = 0;
    private int sweeps = 0;
    private int loaded = 0;

    // Java's zeroed arrays are the starting state: FREE and NO_OWNER are 0.
    public RevokeQuarantine(int heapWords, int threshold) {
        heapSize = clamp(heapWords, MIN_HEAP, MAX_HEAP);
        sweepThreshold = clamp(threshold, MIN_THRESHOLD, MAX_THRESHOLD);
    }

    public int alloc(int rd, int n) {
        if (!isRegister(rd)) {
            return BAD_REG;
        }
        if (n < 1 || n > heapSize) {
            return BAD_SIZE;
        }
        int start = firstFit(n);
        if (start == NO_FIT && countInState(QUAR) > 0) {
            runSweep();
            start = firstFit(n);
        }
        if (start == NO_FIT) {
            return NO_SPACE;
        }
        allocs = allocs + 1;
        claimWords(start, n, allocs);
        setRegister(rd, true, start, n, start);
        return start;
    }

    public int free(int r) {
        if (!isRegister(r)) {
            return BAD_REG;
        }
        if (!regTag[r]) {
            return TAG_FAULT;
        }
        if (!isWholeBlock(regBase[r], regLen[r])) {
            return NOT_BLOCK;
        }
        quarantineBlock(wordOwner[regBase[r]]);
        if (countInState(QUAR) >= sweepThreshold) {
            runSweep();
            return OK_SWEPT;
        }
        return OK;
    }

    public int sweep() {
        return runSweep();
    }

    public int move(int rd, int rs) {
        if (!isRegister(rd) || !isRegister(rs)) {
            return BAD_REG;
        }
        setRegister(rd, regTag[rs], regBase[rs], regLen[rs], regAddr[rs]);
        return OK;
    }

    public int restrict(int rd, int rs, int off, int len) {
        if (!isRegister(rd) || !isRegister(rs)) {
            return BAD_REG;
        }
        if (!regTag[rs]) {
            return TAG_FAULT;
        }
        // In long, so that a huge off and len cannot wrap to a small sum.
        long end = (long) off + (long) len;
        if (off < 0 || len < 1 || end > regLen[rs]) {
            return BAD_BOUNDS;
        }
        int base = regBase[rs] + off;
        setRegister(rd, true, base, len, base);
        return OK;
    }

    public int addAddr(int r, int delta) {
        if (!isRegister(r)) {
            return BAD_REG;
        }
        regAddr[r] = regAddr[r] + delta;
        return OK;
    }

    public int storeData(int r, int v) {
        if (!isRegister(r)) {
            return BAD_REG;
        }
        int fault = accessFault(r);
        if (fault != OK) {
            return fault;
        }
        setWord(regAddr[r], false, 0, 0, v);
        return OK;
    }

    public int loadData(int r) {
        if (!isRegister(r)) {
            return BAD_REG;
        }
        int fault = accessFault(r);
        if (fault != OK) {
            return fault;
        }
        loaded = wordValue[regAddr[r]];
        return OK;
    }

    public int storeCap(int r, int rs) {
        if (!isRegister(r) || !isRegister(rs)) {
            return BAD_REG;
        }
        int fault = accessFault(r);
        if (fault != OK) {
            return fault;
        }
        setWord(regAddr[r], regTag[rs], regBase[rs], regLen[rs], regAddr[rs]);
        return OK;
    }

    public int loadCap(int rd, int r) {
        if (!isRegister(rd) || !isRegister(r)) {
            return BAD_REG;
        }
        int fault = accessFault(r);
        if (fault != OK) {
            return fault;
        }
        int w = regAddr[r];
        setRegister(rd, wordTag[w], wordBase[w], wordLen[w], wordValue[w]);
        return OK;
    }

    public int loadedValue() {
        return loaded;
    }

    public int reg(int r, int field) {
        if (!isRegister(r)) {
            return NO_SUCH_FIELD;
        }
        switch (field) {
            case F_TAG:
                return regTag[r] ? 1 : 0;
            case F_BASE:
                return regBase[r];
            case F_LEN:
                return regLen[r];
            case F_ADDR:
                return regAddr[r];
            default:
                return NO_SUCH_FIELD;
        }
    }

    public int mem(int addr, int field) {
        if (!isWord(addr)) {
            return NO_SUCH_FIELD;
        }
        switch (field) {
            case F_TAG:
                return wordTag[addr] ? 1 : 0;
            case F_BASE:
                return wordBase[addr];
            case F_LEN:
                return wordLen[addr];
            case F_ADDR:
                return wordValue[addr];
            case F_OWNER:
                return wordOwner[addr];
            case F_STATE:
                return wordState[addr];
            default:
                return NO_SUCH_FIELD;
        }
    }

    public int stat(int kind) {
        switch (kind) {
            case STAT_FREE:
                return countInState(FREE);
            case STAT_QUAR:
                return countInState(QUAR);
            case STAT_LIVE:
                return countInState(LIVE);
            case STAT_SWEEPS:
                return sweeps;
            case STAT_LARGEST:
                return longestFreeRun();
            case STAT_ALLOCS:
                return allocs;
            case STAT_HEAP:
                return heapSize;
            case STAT_THRESHOLD:
                return sweepThreshold;
            default:
                return NO_SUCH_FIELD;
        }
    }

    private static int clamp(int value, int low, int high) {
        if (value < low) {
            return low;
        }
        return value > high ? high : value;
    }

    private static boolean isRegister(int r) {
        return r >= 0 && r < NREGS;
    }

    private boolean isWord(int addr) {
        return addr >= 0 && addr < heapSize;
    }

    private boolean isQuarantined(int addr) {
        return isWord(addr) && wordState[addr] == QUAR;
    }

    /** OK when register r may be used to reach the word at its address. */
    private int accessFault(int r) {
        if (!regTag[r]) {
            return TAG_FAULT;
        }
        int addr = regAddr[r];
        long end = (long) regBase[r] + (long) regLen[r];
        if (addr < regBase[r] || addr >= end || !isWord(addr)) {
            return BOUNDS_FAULT;
        }
        return OK;
    }

    private boolean isWholeBlock(int base, int len) {
        if (!isWord(base) || wordState[base] != LIVE) {
            return false;
        }
        int owner = wordOwner[base];
        boolean startsBlock = base == 0 || wordOwner[base - 1] != owner;
        return startsBlock && countOwnedBy(owner) == len;
    }

    private int countOwnedBy(int owner) {
        int count = 0;
        for (int w = 0; w < heapSize; w++) {
            if (wordOwner[w] == owner) {
                count++;
            }
        }
        return count;
    }

    private int countInState(int state) {
        int count = 0;
        for (int w = 0; w < heapSize; w++) {
            if (wordState[w] == state) {
                count++;
            }
        }
        return count;
    }

    private int longestFreeRun() {
        int longest = 0;
        int run = 0;
        for (int w = 0; w < heapSize; w++) {
            run = wordState[w] == FREE ? run + 1 : 0;
            if (run > longest) {
                longest = run;
            }
        }
        return longest;
    }

    private int firstFit(int n) {
        int run = 0;
        for (int w = 0; w < heapSize; w++) {
            run = wordState[w] == FREE ? run + 1 : 0;
            if (run == n) {
                return w - n + 1;
            }
        }
        return NO_FIT;
    }

    private void claimWords(int start, int n, int owner) {
        for (int w = start; w < start + n; w++) {
            setWord(w, false, 0, 0, 0);
            wordOwner[w] = owner;
            wordState[w] = LIVE;
        }
    }

    private void quarantineBlock(int owner) {
        for (int w = 0; w < heapSize; w++) {
            if (wordOwner[w] == owner) {
                wordState[w] = QUAR;
            }
        }
    }

    // Both revocations come before the release: they judge a capability by
    // the state of the word at its base, which the release wipes out.
    private int runSweep() {
        int revoked = revokeRegisters();
        revoked = revoked + revokeWords();
        releaseQuarantine();
        sweeps = sweeps + 1;
        return revoked;
    }

    private int revokeRegisters() {
        int revoked = 0;
        for (int r = 0; r < NREGS; r++) {
            if (regTag[r] && isQuarantined(regBase[r])) {
                regTag[r] = false;
                revoked++;
            }
        }
        return revoked;
    }

    private int revokeWords() {
        int revoked = 0;
        for (int w = 0; w < heapSize; w++) {
            if (wordTag[w] && isQuarantined(wordBase[w])) {
                wordTag[w] = false;
                revoked++;
            }
        }
        return revoked;
    }

    private void releaseQuarantine() {
        for (int w = 0; w < heapSize; w++) {
            if (wordState[w] == QUAR) {
                setWord(w, false, 0, 0, 0);
                wordOwner[w] = NO_OWNER;
                wordState[w] = FREE;
            }
        }
    }

    private void setRegister(int r, boolean tag, int base, int len, int addr) {
        regTag[r] = tag;
        regBase[r] = base;
        regLen[r] = len;
        regAddr[r] = addr;
    }

    private void setWord(int w, boolean tag, int base, int len, int value) {
        wordTag[w] = tag;
        wordBase[w] = base;
        wordLen[w] = len;
        wordValue[w] = value;
    }
}
