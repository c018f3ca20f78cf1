/** Calls a method of the machine by its name. */
final class Calls {
    private Calls() {
    }

    static int make(RevokeQuarantine x, String name, int[] a) {
        switch (name) {
            case "alloc": return x.alloc(a[0], a[1]);
            case "free": return x.free(a[0]);
            case "sweep": return x.sweep();
            case "move": return x.move(a[0], a[1]);
            case "restrict": return x.restrict(a[0], a[1], a[2], a[3]);
            case "addAddr": return x.addAddr(a[0], a[1]);
            case "storeData": return x.storeData(a[0], a[1]);
            case "loadData": return x.loadData(a[0]);
            case "storeCap": return x.storeCap(a[0], a[1]);
            case "loadCap": return x.loadCap(a[0], a[1]);
            case "loadedValue": return x.loadedValue();
            case "reg": return x.reg(a[0], a[1]);
            case "mem": return x.mem(a[0], a[1]);
            case "stat": return x.stat(a[0]);
            default: throw new IllegalArgumentException(name);
        }
    }
}
