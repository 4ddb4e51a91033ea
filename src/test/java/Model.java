import java.util.ArrayDeque;
import java.util.ArrayList;
import java.util.Arrays;
import java.util.Deque;
import java.util.List;
import java.util.regex.Matcher;
import java.util.regex.Pattern;

/** The document once more, written as plainly as the Java library allows: slow, and made anew each time. */
final class Model {
    static final int BAD = -1, NO = -2, FULL = -3, NONE = -4;
    private static final Pattern ITEM = Pattern.compile("([bfghkr])(\\d\\d?)(?:,(\\d\\d?))?(?:,(\\d\\d?))?;");
    private static final String FIRST = "b60;b72;g66,0,0;g60,0,0;g75,0,0;h0,1;h0,2;";

    /** What a text tells. */
    static final class Told {
        final List<Integer> beds = new ArrayList<>();
        final List<int[]> feasts = new ArrayList<>();
        final List<int[]> guests = new ArrayList<>();
        final List<int[]> friends = new ArrayList<>();
        final List<Integer> rival = new ArrayList<>();
        int law = 1;
        int fault = NONE;
    }

    /** What can be changed, kept and undone. */
    static final class State {
        List<Integer> row = new ArrayList<>();
        int[] worn;
        int[] comes;

        State copy() {
            State s = new State();
            s.row = new ArrayList<>(row);
            s.worn = worn.clone();
            s.comes = comes.clone();
            return s;
        }
    }

    /** What a night can be asked under another supposition. */
    static class World {
        State state;
        List<Integer> beds;
        int law;
        boolean turned;
        int z = -1;
    }

    static final class Slept {
        int night = NONE, bed = NONE, harm = NONE, namer = NONE, called = 0;
    }

    private final StringBuilder text = new StringBuilder();
    private Told told = read(FIRST);
    private State state = begin(told);
    private final Deque<State> undo = new ArrayDeque<>();
    private final Deque<State> kept = new ArrayDeque<>();
    private final List<int[]> left = new ArrayList<>();

    static Told read(String text) {
        Told t = new Told();
        Matcher m = ITEM.matcher(text);
        int at = 0;
        while (at < text.length()) {
            m.region(at, text.length());
            if (!m.lookingAt() || !take(t, m)) {
                t.fault = at;
                return t;
            }
            at = m.end();
        }
        return t;
    }

    private static boolean take(Told t, Matcher m) {
        List<Integer> n = new ArrayList<>();
        for (int g = 2; g <= 4; g++) {
            if (m.group(g) != null) {
                n.add(Integer.parseInt(m.group(g)));
            }
        }
        String letter = m.group(1);
        int due = "g".equals(letter) ? 3 : "fh".contains(letter) ? 2 : 1;
        if (n.size() != due) {
            return false;
        }
        boolean inches = n.get(0) >= 40 && n.get(0) <= 99;
        switch (letter) {
            case "b":
                t.beds.add(n.get(0));
                return inches && t.beds.size() <= 4;
            case "r":
                t.rival.add(n.get(0));
                return inches && t.rival.size() <= 4;
            case "k":
                t.law = n.get(0);
                return t.law <= 2;
            case "f":
                t.feasts.add(new int[] {n.get(0), n.get(1)});
                return n.get(0) <= 29 && n.get(1) <= 9 && t.feasts.size() <= 4;
            case "h":
                t.friends.add(new int[] {n.get(0), n.get(1)});
                return n.get(0) < t.guests.size() && n.get(1) < t.guests.size() && !n.get(0).equals(n.get(1));
            default:
                t.guests.add(new int[] {n.get(0), n.get(1), n.get(2)});
                return inches && n.get(1) <= 9 && n.get(2) <= 4 && t.guests.size() <= 7;
        }
    }

    private static State begin(Told t) {
        State s = new State();
        s.worn = new int[t.guests.size()];
        s.comes = new int[t.guests.size()];
        for (int i = 0; i < t.guests.size(); i++) {
            s.row.add(i);
            s.comes[i] = t.guests.get(i)[1];
        }
        return s;
    }

    private World now() {
        World w = new World();
        w.state = state.copy();
        w.beds = new ArrayList<>(told.beds);
        w.law = told.law;
        return w;
    }

    private int bedLength(World w, int b, int n) {
        int at = w.turned && n % 2 != 0 ? (b + 1) % w.beds.size() : b;
        int l = w.beds.get(at);
        for (int[] f : told.feasts) {
            l += f[0] == n ? f[1] : 0;
        }
        if (w.z >= 0) {
            java.math.BigInteger q = java.math.BigInteger.valueOf(7919).multiply(java.math.BigInteger.valueOf(w.z))
                .add(java.math.BigInteger.valueOf(6151 * n + 101 * b + 1));
            int draw = q.multiply(q).mod(java.math.BigInteger.valueOf(65521)).intValue();
            l += draw % 7 - 3;
        }
        return l;
    }

    private int harmIn(World w, int i, int n, int bedLength) {
        int kind = told.guests.get(i)[2];
        int inches = told.guests.get(i)[0] + w.state.worn[i];
        if (kind == 4 && n > w.state.comes[i]) {
            inches += n - w.state.comes[i];
        }
        int longer = Math.max(0, inches - bedLength);
        int shorter = Math.max(0, bedLength - inches);
        switch (kind) {
            case 1: return Math.max(0, longer - 6) + shorter;
            case 2: return longer + 2 * shorter;
            case 3: return Math.max(0, longer + shorter - 2);
            default: return longer + shorter;
        }
    }

    private boolean areFriends(int i, int j) {
        return told.friends.stream().anyMatch(f -> f[0] == i && f[1] == j);
    }

    private Slept[] nights(World w) {
        int guests = told.guests.size();
        Slept[] slept = new Slept[guests];
        for (int i = 0; i < guests; i++) {
            slept[i] = new Slept();
        }
        for (int n = 0; n <= 29; n++) {
            for (int b = 0; b < w.beds.size(); b++) {
                List<Integer> waiting = new ArrayList<>();
                for (int i : w.state.row) {
                    if (w.state.comes[i] <= n && slept[i].night == NONE) {
                        waiting.add(i);
                    }
                }
                if (waiting.isEmpty()) {
                    continue;
                }
                int called = waiting.remove(0);
                slept[called].called++;
                int l = bedLength(w, b, n);
                int night = n;
                int named = waiting.stream()
                    .filter(j -> w.law == 2 || w.law == 1 && areFriends(called, j))
                    .min((x, y) -> harmIn(w, x, night, l) != harmIn(w, y, night, l)
                        ? harmIn(w, x, night, l) - harmIn(w, y, night, l) : x - y).orElse(-1);
                boolean names = named >= 0 && harmIn(w, named, n, l) < harmIn(w, called, n, l);
                Slept s = slept[names ? named : called];
                s.night = n;
                s.bed = b;
                s.harm = harmIn(w, names ? named : called, n, l);
                s.namer = names ? called : NONE;
            }
        }
        return slept;
    }

    private int total(World w) {
        int sum = 0;
        for (Slept s : nights(w)) {
            sum += s.night == NONE ? 50 : s.harm;
        }
        return sum;
    }

    private static void rows(List<Integer> head, List<Integer> rest, List<List<Integer>> out) {
        if (rest.isEmpty()) {
            out.add(head);
        }
        for (int k = 0; k < rest.size(); k++) {
            List<Integer> h = new ArrayList<>(head);
            List<Integer> r = new ArrayList<>(rest);
            h.add(r.remove(k));
            rows(h, r, out);
        }
    }

    private boolean isGuest(int i) {
        return i >= 0 && i < told.guests.size();
    }

    private boolean isBed(int b) {
        return b >= 0 && b < told.beds.size();
    }

    private static boolean in(int x, int lo, int hi) {
        return lo <= x && x <= hi;
    }

    /** Answers a call by its name. */
    int answer(String call, int... a) {
        switch (call) {
            case "write":
                if (!in(a[0], 32, 126)) {
                    return BAD;
                }
                if (text.length() == 200) {
                    return FULL;
                }
                return text.append((char) a[0]).length();
            case "wipe": {
                int was = text.length();
                text.setLength(0);
                return was;
            }
            case "fault": return read(text.toString()).fault;
            case "lay": {
                Told t = read(text.toString());
                if (t.fault != NONE || t.beds.isEmpty() || t.guests.isEmpty()) {
                    return NO;
                }
                told = t;
                state = begin(t);
                undo.clear();
                kept.clear();
                left.clear();
                return t.guests.size();
            }
            case "bed": return isBed(a[0]) && in(a[1], 0, 29) ? bedLength(now(), a[0], a[1]) : BAD;
            case "guest": return guest(a[0], a[1]);
            case "harm":
                return isGuest(a[0]) && isBed(a[1]) && in(a[2], 0, 29)
                    ? harmIn(now(), a[0], a[2], bedLength(now(), a[1], a[2])) : BAD;
            case "lies": return lies(a[0], a[1]);
            case "who": {
                if (!isBed(a[0]) || !in(a[1], 0, 29)) {
                    return BAD;
                }
                Slept[] s = nights(now());
                for (int i = 0; i < s.length; i++) {
                    if (s[i].bed == a[0] && s[i].night == a[1]) {
                        return i;
                    }
                }
                return NONE;
            }
            case "all": return all(now(), a[0]);
            case "move": case "wear": case "come": return change(call, a[0], a[1]);
            case "undo":
                if (undo.isEmpty()) {
                    return NO;
                }
                state = undo.pop();
                return undo.size();
            default: return best(call, a);
        }
    }

    private int guest(int i, int what) {
        if (!isGuest(i)) {
            return BAD;
        }
        switch (what) {
            case 0: return told.guests.get(i)[0];
            case 1: return state.comes[i];
            case 2: return told.guests.get(i)[2];
            case 3: return state.worn[i] + 100;
            case 4: {
                int bits = 0;
                for (int j = 0; j < told.guests.size(); j++) {
                    bits += areFriends(i, j) ? 1 << j : 0;
                }
                return bits;
            }
            case 5: return state.row.indexOf(i);
            default: return BAD;
        }
    }

    private int lies(int i, int what) {
        if (!isGuest(i) || !in(what, 0, 4)) {
            return BAD;
        }
        Slept s = nights(now())[i];
        return s.night == NONE ? NONE : new int[] {s.night, s.bed, s.harm, s.namer, s.called}[what];
    }

    private int all(World w, int what) {
        Slept[] s = nights(w);
        switch (what) {
            case 0: return total(w);
            case 1: return (int) Arrays.stream(s).filter(x -> x.night != NONE).count();
            case 2: return (int) Arrays.stream(s).filter(x -> x.harm == 0).count();
            case 3: return Arrays.stream(s).mapToInt(x -> x.harm).max().orElse(0);
            default: return BAD;
        }
    }

    private int change(String call, int i, int x) {
        if (!isGuest(i)) {
            return BAD;
        }
        State next = state.copy();
        int old;
        if (call.equals("move")) {
            if (!isGuest(x)) {
                return BAD;
            }
            old = next.row.indexOf(i);
            next.row.remove(old);
            next.row.add(x, i);
        } else if (call.equals("wear")) {
            if (!in(x, -9, 9)) {
                return BAD;
            }
            old = next.worn[i] + 100;
            next.worn[i] = x;
        } else {
            if (!in(x, 0, 9)) {
                return BAD;
            }
            old = next.comes[i];
            next.comes[i] = x;
        }
        undo.push(state);
        if (undo.size() > 8) {
            undo.removeLast();
        }
        state = next;
        return old;
    }

    /** The best row, and behind it ALL by it. */
    int[] bestRow() {
        List<List<Integer>> rows = new ArrayList<>();
        rows(new ArrayList<>(), begin(told).row, rows);
        World w = now();
        int[] best = new int[told.guests.size() + 1];
        best[told.guests.size()] = 1 << 30;
        for (List<Integer> row : rows) {
            w.state.row = row;
            int sum = total(w);
            if (sum < best[row.size()]) {
                for (int p = 0; p < row.size(); p++) {
                    best[p] = row.get(p);
                }
                best[row.size()] = sum;
            }
        }
        return best;
    }

    private int best(String call, int... a) {
        switch (call) {
            case "order": {
                if (a[0] != -1 && !isGuest(a[0])) {
                    return BAD;
                }
                int[] best = bestRow();
                return best[a[0] == -1 ? best.length - 1 : a[0]];
            }
            case "cushion": {
                int[] best = {0, 0, 1 << 30};
                for (int i = 0; i < told.guests.size(); i++) {
                    for (int c = -9; c <= 9; c++) {
                        World w = now();
                        w.state.worn[i] = c;
                        int sum = total(w);
                        if (sum < best[2]) {
                            best = new int[] {i, c + 100, sum};
                        }
                    }
                }
                return in(a[0], 0, 2) ? best[a[0]] : BAD;
            }
            case "length": {
                if (!isBed(a[0]) || !in(a[1], 0, 1)) {
                    return BAD;
                }
                int[] best = {0, 1 << 30};
                for (int l = 40; l <= 99; l++) {
                    World w = now();
                    w.beds.set(a[0], l);
                    int sum = total(w);
                    if (sum < best[1]) {
                        best = new int[] {l, sum};
                    }
                }
                return best[a[1]];
            }
            case "law": {
                int[] sums = new int[3];
                for (int k = 0; k <= 2; k++) {
                    World w = now();
                    w.law = k;
                    sums[k] = total(w);
                }
                return sums[0] <= sums[1] && sums[0] <= sums[2] ? 0 : sums[1] <= sums[2] ? 1 : 2;
            }
            case "pairs": return pairs(a[0]);
            case "later": return later(a[0], a[1]);
            case "rival": return rival();
            case "fewest": {
                if (!in(a[0], 0, 29)) {
                    return BAD;
                }
                for (int k = 1; k <= told.beds.size(); k++) {
                    World w = now();
                    w.beds = w.beds.subList(0, k);
                    if (Arrays.stream(nights(w)).allMatch(s -> s.night != NONE && s.night <= a[0])) {
                        return k;
                    }
                }
                return NONE;
            }
            case "turned": {
                World w = now();
                w.turned = true;
                return total(w);
            }
            default: return remains(call, a);
        }
    }

    private int pairs(int what) {
        if (!in(what, 0, 1)) {
            return BAD;
        }
        Slept[] here = nights(now());
        List<Integer> pairs = new ArrayList<>();
        for (int i = 0; i < here.length; i++) {
            for (int j = i + 1; j < here.length; j++) {
                World w = now();
                java.util.Collections.swap(w.state.row, w.state.row.indexOf(i), w.state.row.indexOf(j));
                Slept[] then = nights(w);
                if (here[i].night != NONE && here[j].night != NONE && then[i].night != NONE && then[j].night != NONE
                    && then[i].harm < here[i].harm && then[j].harm < here[j].harm) {
                    pairs.add(10 * i + j);
                }
            }
        }
        return what == 0 ? pairs.size() : pairs.isEmpty() ? NONE : pairs.get(0);
    }

    private int later(int i, int what) {
        if (!isGuest(i) || !in(what, 0, 1)) {
            return BAD;
        }
        int[] best = null;
        for (int d = 0; d <= 9; d++) {
            World w = now();
            w.state.comes[i] += d;
            Slept s = nights(w)[i];
            if (s.night != NONE && (best == null || s.harm < best[1])) {
                best = new int[] {d, s.harm};
            }
        }
        return best == null ? NONE : best[what];
    }

    private int rival() {
        Slept[] here = nights(now());
        int bits = 0;
        for (int i = 0; i < here.length; i++) {
            int mine = here[i].night == NONE ? 50 : here[i].harm;
            int g = i;
            if (told.rival.stream().anyMatch(l -> harmIn(now(), g, state.comes[g], l) < mine)) {
                bits += 1 << i;
            }
        }
        return bits;
    }

    private int remains(String call, int... a) {
        switch (call) {
            case "left":
                if (!isBed(a[0]) || !in(a[1], 0, 29) || !in(a[2], 0, 99)) {
                    return BAD;
                }
                if (left.size() == 6) {
                    return FULL;
                }
                left.add(a.clone());
                return left.size();
            case "sweep": {
                int was = left.size();
                left.clear();
                return was;
            }
            case "slept": {
                if (!in(a[0], 0, left.size() - 1)) {
                    return BAD;
                }
                int bits = 0;
                for (int i : sleepers(a[0])) {
                    bits += 1 << i;
                }
                return bits;
            }
            case "sure": return sure(a[0]);
            case "found": return found(a[0], a[1]);
            case "year": {
                if (!in(a[0], 0, 9999) || !in(a[1], 0, 1)) {
                    return BAD;
                }
                World w = now();
                w.z = a[0];
                return all(w, a[1] == 0 ? 0 : 2);
            }
            case "keep":
                if (kept.size() == 2) {
                    return FULL;
                }
                kept.push(state.copy());
                return kept.size();
            case "back":
                if (kept.isEmpty()) {
                    return NO;
                }
                state = kept.pop();
                undo.clear();
                return kept.size();
            case "count": {
                int[] counts = {told.beds.size(), told.guests.size(), told.feasts.size(), told.rival.size(), told.law,
                    left.size(), undo.size(), kept.size(), text.length()};
                return in(a[0], 0, 8) ? counts[a[0]] : BAD;
            }
            default: throw new IllegalArgumentException(call);
        }
    }

    private List<Integer> sleepers(int k) {
        int[] l = left.get(k);
        List<Integer> those = new ArrayList<>();
        for (int i = 0; i < told.guests.size(); i++) {
            if (state.comes[i] <= l[1] && harmIn(now(), i, l[1], bedLength(now(), l[0], l[1])) == l[2]) {
                those.add(i);
            }
        }
        return those;
    }

    private void ways(List<Integer> taken, List<List<Integer>> out) {
        if (taken.size() == left.size()) {
            out.add(taken);
            return;
        }
        for (int i : sleepers(taken.size())) {
            if (!taken.contains(i)) {
                List<Integer> more = new ArrayList<>(taken);
                more.add(i);
                ways(more, out);
            }
        }
    }

    private int sure(int k) {
        if (!in(k, -1, left.size() - 1)) {
            return BAD;
        }
        List<List<Integer>> ways = new ArrayList<>();
        ways(new ArrayList<>(), ways);
        if (k == -1) {
            return ways.size();
        }
        if (ways.isEmpty()) {
            return NONE;
        }
        int one = ways.get(0).get(k);
        return ways.stream().allMatch(w -> w.get(k) == one) ? one : NONE;
    }

    private int found(int i, int x) {
        if (!isGuest(i) || !in(x, 0, 10)) {
            return BAD;
        }
        Slept s = nights(now())[i];
        int nights = (s.night == NONE ? 29 : s.night) - state.comes[i] + 1;
        int chance = 1000;
        for (int n = 0; n < nights; n++) {
            chance = chance * Math.max(0, 1000 - 10 * x * Math.abs(state.worn[i])) / 1000;
        }
        return chance;
    }
}
