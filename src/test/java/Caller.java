/** Calls the class by a call's name. */
final class Caller {
    private Caller() {
    }

    static int call(BedsThatFit x, String name, int... a) {
        switch (name) {
            case "write": return x.write(a[0]);
            case "wipe": return x.wipe();
            case "fault": return x.fault();
            case "lay": return x.lay();
            case "bed": return x.bed(a[0], a[1]);
            case "guest": return x.guest(a[0], a[1]);
            case "harm": return x.harm(a[0], a[1], a[2]);
            case "lies": return x.lies(a[0], a[1]);
            case "who": return x.who(a[0], a[1]);
            case "all": return x.all(a[0]);
            case "move": return x.move(a[0], a[1]);
            case "wear": return x.wear(a[0], a[1]);
            case "come": return x.come(a[0], a[1]);
            case "undo": return x.undo();
            case "order": return x.order(a[0]);
            case "cushion": return x.cushion(a[0]);
            case "length": return x.length(a[0], a[1]);
            case "law": return x.law();
            case "pairs": return x.pairs(a[0]);
            case "later": return x.later(a[0], a[1]);
            case "rival": return x.rival();
            case "fewest": return x.fewest(a[0]);
            case "turned": return x.turned();
            case "left": return x.left(a[0], a[1], a[2]);
            case "sweep": return x.sweep();
            case "slept": return x.slept(a[0]);
            case "sure": return x.sure(a[0]);
            case "found": return x.found(a[0], a[1]);
            case "year": return x.year(a[0], a[1]);
            case "keep": return x.keep();
            case "back": return x.back();
            case "count": return x.count(a[0]);
            default: throw new IllegalArgumentException(name);
        }
    }
}
