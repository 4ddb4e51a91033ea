/**
 * An inn on a pass whose keeper stretches or trims whoever does not fit.
 *
 * What a call supposes ("were the law another one") is set in the inn itself, the nights are
 * passed, and it is set back: so no call makes an object.
 */
public final class BedsThatFit {
    public static final int BAD = -1, NO = -2, FULL = -3, NONE = -4;

    private static final int MOST_LETTERS = 200;
    private static final int MOST_BEDS = 4;
    private static final int MOST_FEASTS = 4;
    private static final int MOST_GUESTS = 7;
    private static final int MOST_RIVALS = 4;
    private static final int MOST_LEFT = 6;
    private static final int MOST_UNDONE = 8;
    private static final int MOST_KEPT = 2;
    private static final int MOST_ROWS = 5040;
    private static final int NIGHTS = 30;
    private static final int NIGHTS_TO_COME = 10;
    private static final int NIGHTS_LATER = 9;
    private static final int SHORTEST = 40;
    private static final int LONGEST = 99;
    private static final int MOST_WORN = 9;
    private static final int WORN_AND = 100;
    private static final int HARM_WITHOUT_BED = 50;
    private static final int LAWS = 3;
    private static final int LAW_OF_FRIENDS = 1;
    private static final int LAW_OF_ANY = 2;
    private static final int KINDS = 5;
    private static final int BENT = 1;
    private static final int CHILD = 2;
    private static final int KNOWN = 3;
    private static final int GROWING = 4;
    private static final int YEARS = 10000;
    private static final int NO_YEAR = -1;
    private static final int THOUSAND = 1000;
    private static final int UNBOUNDED = 1000000;
    private static final String FIRST_INN = "b60;b72;g66,0,0;g60,0,0;g75,0,0;h0,1;h0,2;";

    private final Script script = new Script();
    private final Nights nights = new Nights();
    private final Changes changes = new Changes();
    private final Shelf shelf = new Shelf();
    private final Remains remains = new Remains();
    private final Orders orders = new Orders();
    private final int[] harmsNow = new int[MOST_GUESTS];
    private Inn inn = new Inn();
    private Inn draft = new Inn();

    public BedsThatFit() {
        for (int k = 0; k < FIRST_INN.length(); k++) {
            script.put(FIRST_INN.charAt(k));
        }
        script.readInto(inn);
        script.size = 0;
    }

    // ---- inns

    public int write(int letter) {
        if (!isWithin(letter, 32, 126)) {
            return BAD;
        }
        return script.put((char) letter) ? script.size : FULL;
    }

    public int wipe() {
        int size = script.size;
        script.size = 0;
        return size;
    }

    public int fault() {
        return script.readInto(draft);
    }

    public int lay() {
        if (script.readInto(draft) != NONE || !draft.canOpen()) {
            return NO;
        }
        Inn closed = inn;
        inn = draft;
        draft = closed;
        changes.size = 0;
        shelf.size = 0;
        remains.size = 0;
        orders.known = false;
        return inn.party.size;
    }

    public int bed(int b, int n) {
        return inn.beds.has(b) && isNight(n) ? inn.beds.lengthOn(b, n) : BAD;
    }

    public int guest(int i, int what) {
        Party party = inn.party;
        if (!party.has(i)) {
            return BAD;
        }
        switch (what) {
            case 0: return party.inches[i];
            case 1: return party.comes[i];
            case 2: return party.kinds[i];
            case 3: return party.worn[i] + WORN_AND;
            case 4: return party.friends[i];
            case 5: return party.placeOf(i);
            default: return BAD;
        }
    }

    public int harm(int i, int b, int n) {
        if (!inn.party.has(i) || !inn.beds.has(b) || !isNight(n)) {
            return BAD;
        }
        return inn.party.harmAt(i, n, inn.beds.lengthOn(b, n));
    }

    // ---- nights

    public int lies(int i, int what) {
        if (!inn.party.has(i) || !isWithin(what, 0, 4)) {
            return BAD;
        }
        nights.pass(inn, UNBOUNDED);
        if (!nights.hasLain(i)) {
            return NONE;
        }
        switch (what) {
            case 0: return nights.night[i];
            case 1: return nights.place[i];
            case 2: return nights.harms[i];
            case 3: return nights.namer[i];
            default: return nights.calls[i];
        }
    }

    public int who(int b, int n) {
        if (!inn.beds.has(b) || !isNight(n)) {
            return BAD;
        }
        nights.pass(inn, UNBOUNDED);
        for (int i = 0; i < inn.party.size; i++) {
            if (nights.hasLain(i) && nights.place[i] == b && nights.night[i] == n) {
                return i;
            }
        }
        return NONE;
    }

    public int all(int what) {
        if (!isWithin(what, 0, 3)) {
            return BAD;
        }
        nights.pass(inn, UNBOUNDED);
        switch (what) {
            case 0: return nights.total(inn.party);
            case 1: return Integer.bitCount(nights.lain);
            case 2: return nights.unharmed(inn.party);
            default: return nights.greatest(inn.party);
        }
    }

    // ---- changes

    public int move(int i, int place) {
        if (!inn.party.has(i) || !inn.party.has(place)) {
            return BAD;
        }
        int old = inn.party.placeOf(i);
        inn.party.shift(old, place);
        noteChange(Changes.PLACE, i, old);
        return old;
    }

    public int wear(int i, int c) {
        if (!inn.party.has(i) || !isWithin(c, -MOST_WORN, MOST_WORN)) {
            return BAD;
        }
        int old = inn.party.worn[i];
        inn.party.worn[i] = c;
        noteChange(Changes.WORN, i, old);
        return old + WORN_AND;
    }

    public int come(int i, int t) {
        if (!inn.party.has(i) || !isWithin(t, 0, NIGHTS_TO_COME - 1)) {
            return BAD;
        }
        int old = inn.party.comes[i];
        inn.party.comes[i] = t;
        noteChange(Changes.NIGHT, i, old);
        return old;
    }

    public int undo() {
        if (changes.size == 0) {
            return NO;
        }
        changes.takeBack(inn.party);
        orders.known = false;
        return changes.size;
    }

    // ---- what would be best

    public int order(int place) {
        if (place != -1 && !inn.party.has(place)) {
            return BAD;
        }
        if (!orders.known) {
            orders.search(inn, nights);
        }
        return place == -1 ? orders.least : orders.row[place];
    }

    public int cushion(int what) {
        if (!isWithin(what, 0, 2)) {
            return BAD;
        }
        int least = UNBOUNDED;
        int wearer = 0;
        int inches = 0;
        for (int i = 0; i < inn.party.size; i++) {
            int old = inn.party.worn[i];
            for (int c = -MOST_WORN; c <= MOST_WORN; c++) {
                inn.party.worn[i] = c;
                int sum = sumBelow(least);
                if (sum < least) {
                    least = sum;
                    wearer = i;
                    inches = c;
                }
            }
            inn.party.worn[i] = old;
        }
        switch (what) {
            case 0: return wearer;
            case 1: return inches + WORN_AND;
            default: return least;
        }
    }

    public int length(int b, int what) {
        if (!inn.beds.has(b) || !isWithin(what, 0, 1)) {
            return BAD;
        }
        int old = inn.beds.lengths[b];
        int least = UNBOUNDED;
        int best = old;
        for (int inches = SHORTEST; inches <= LONGEST; inches++) {
            inn.beds.lengths[b] = inches;
            int sum = sumBelow(least);
            if (sum < least) {
                least = sum;
                best = inches;
            }
        }
        inn.beds.lengths[b] = old;
        return what == 0 ? best : least;
    }

    public int law() {
        int old = inn.law;
        int least = UNBOUNDED;
        int best = old;
        for (int kind = 0; kind < LAWS; kind++) {
            inn.law = kind;
            int sum = sumBelow(least);
            if (sum < least) {
                least = sum;
                best = kind;
            }
        }
        inn.law = old;
        return best;
    }

    public int pairs(int what) {
        if (!isWithin(what, 0, 1)) {
            return BAD;
        }
        int lying = noteHarmsNow();
        int pairs = 0;
        int first = NONE;
        for (int i = 0; i < inn.party.size; i++) {
            for (int j = i + 1; j < inn.party.size; j++) {
                if (isIn(lying, i) && isIn(lying, j) && wouldSwap(i, j)) {
                    pairs++;
                    first = first == NONE ? 10 * i + j : first;
                }
            }
        }
        return what == 0 ? pairs : first;
    }

    public int later(int i, int what) {
        if (!inn.party.has(i) || !isWithin(what, 0, 1)) {
            return BAD;
        }
        int old = inn.party.comes[i];
        int least = UNBOUNDED;
        int fewest = NONE;
        for (int more = 0; more <= NIGHTS_LATER; more++) {
            inn.party.comes[i] = old + more;
            nights.pass(inn, UNBOUNDED);
            if (nights.hasLain(i) && nights.harms[i] < least) {
                least = nights.harms[i];
                fewest = more;
            }
        }
        inn.party.comes[i] = old;
        if (fewest == NONE) {
            return NONE;
        }
        return what == 0 ? fewest : least;
    }

    public int rival() {
        nights.pass(inn, UNBOUNDED);
        int going = 0;
        for (int i = 0; i < inn.party.size; i++) {
            int here = nights.hasLain(i) ? nights.harms[i] : HARM_WITHOUT_BED;
            if (inn.leastAtRival(i) < here) {
                going |= 1 << i;
            }
        }
        return going;
    }

    public int fewest(int n) {
        if (!isNight(n)) {
            return BAD;
        }
        int enough = NONE;
        for (int k = 1; k <= inn.beds.size && enough == NONE; k++) {
            inn.beds.open = k;
            nights.pass(inn, UNBOUNDED);
            if (nights.allLainBy(inn.party, n)) {
                enough = k;
            }
        }
        inn.beds.open = inn.beds.size;
        return enough;
    }

    public int turned() {
        inn.beds.turning = true;
        int sum = sumBelow(UNBOUNDED);
        inn.beds.turning = false;
        return sum;
    }

    // ---- what is left

    public int left(int b, int n, int h) {
        if (!inn.beds.has(b) || !isNight(n) || !isWithin(h, 0, 99)) {
            return BAD;
        }
        return remains.add(b, n, h) ? remains.size : FULL;
    }

    public int sweep() {
        int size = remains.size;
        remains.size = 0;
        return size;
    }

    public int slept(int k) {
        return remains.has(k) ? remains.sleepersOf(inn, k) : BAD;
    }

    public int sure(int k) {
        if (k == -1) {
            return remains.ways(inn, NONE, 0);
        }
        return remains.has(k) ? remains.onlySleeperOf(inn, k) : BAD;
    }

    public int found(int i, int x) {
        if (!inn.party.has(i) || !isWithin(x, 0, 10)) {
            return BAD;
        }
        nights.pass(inn, UNBOUNDED);
        int last = nights.hasLain(i) ? nights.night[i] : NIGHTS - 1;
        int each = Math.max(0, THOUSAND - 10 * x * Math.abs(inn.party.worn[i]));
        int chance = THOUSAND;
        for (int n = inn.party.comes[i]; n <= last; n++) {
            chance = chance * each / THOUSAND;
        }
        return chance;
    }

    public int year(int z, int what) {
        if (!isWithin(z, 0, YEARS - 1) || !isWithin(what, 0, 1)) {
            return BAD;
        }
        inn.beds.year = z;
        nights.pass(inn, UNBOUNDED);
        inn.beds.year = NO_YEAR;
        return what == 0 ? nights.total(inn.party) : nights.unharmed(inn.party);
    }

    public int keep() {
        return shelf.put(inn.party) ? shelf.size : FULL;
    }

    public int back() {
        if (shelf.size == 0) {
            return NO;
        }
        shelf.takeInto(inn.party);
        changes.size = 0;
        orders.known = false;
        return shelf.size;
    }

    public int count(int what) {
        switch (what) {
            case 0: return inn.beds.size;
            case 1: return inn.party.size;
            case 2: return inn.beds.feasts;
            case 3: return inn.rivals;
            case 4: return inn.law;
            case 5: return remains.size;
            case 6: return changes.size;
            case 7: return shelf.size;
            case 8: return script.size;
            default: return BAD;
        }
    }

    private static boolean isWithin(int x, int least, int most) {
        return x >= least && x <= most;
    }

    private static boolean isNight(int n) {
        return isWithin(n, 0, NIGHTS - 1);
    }

    private static boolean isLength(int inches) {
        return isWithin(inches, SHORTEST, LONGEST);
    }

    private static boolean isIn(int bits, int i) {
        return (bits >> i & 1) == 1;
    }

    private void noteChange(int what, int i, int old) {
        changes.push(what, i, old);
        orders.known = false;
    }

    /** ALL as things stand (or are supposed), or some sum not below the bound. */
    private int sumBelow(int bound) {
        nights.pass(inn, bound);
        return nights.total(inn.party);
    }

    private int noteHarmsNow() {
        nights.pass(inn, UNBOUNDED);
        System.arraycopy(nights.harms, 0, harmsNow, 0, MOST_GUESTS);
        return nights.lain;
    }

    private boolean wouldSwap(int i, int j) {
        inn.party.swapPlaces(i, j);
        nights.pass(inn, UNBOUNDED);
        inn.party.swapPlaces(i, j);
        return nights.hasLain(i) && nights.hasLain(j)
            && nights.harms[i] < harmsNow[i] && nights.harms[j] < harmsNow[j];
    }

    /** BEDS, feasts, and what is supposed of their lengths. */
    private static final class Beds {
        final int[] lengths = new int[MOST_BEDS];
        final int[] longer = new int[NIGHTS];
        int size;
        int feasts;
        int open;
        boolean turning;
        int year = NO_YEAR;

        void clear() {
            size = 0;
            open = 0;
            feasts = 0;
            for (int n = 0; n < NIGHTS; n++) {
                longer[n] = 0;
            }
        }

        boolean has(int b) {
            return b >= 0 && b < size;
        }

        boolean add(int inches) {
            if (size >= MOST_BEDS) {
                return false;
            }
            lengths[size] = inches;
            size++;
            open = size;
            return true;
        }

        boolean addFeast(int n, int inches) {
            if (feasts >= MOST_FEASTS || !isNight(n)) {
                return false;
            }
            longer[n] += inches;
            feasts++;
            return true;
        }

        int lengthOn(int b, int n) {
            int lying = turning && n % 2 == 1 ? b + 1 : b;
            if (lying == size) {
                lying = 0;
            }
            int inches = has(lying) ? lengths[lying] : 0;
            inches += isNight(n) ? longer[n] : 0;
            return year == NO_YEAR ? inches : inches + drawn(b, n);
        }

        private int drawn(int b, int n) {
            // q goes beyond 79 million, so its square needs a long.
            long q = 7919L * year + 6151L * n + 101L * b + 1;
            return (int) (q * q % 65521 % 7) - 3;
        }
    }

    /** GUESTS and THE ROW. Places in the row are numbered as guests are: 0 to size less 1. */
    private static final class Party {
        final int[] inches = new int[MOST_GUESTS];
        final int[] comes = new int[MOST_GUESTS];
        final int[] kinds = new int[MOST_GUESTS];
        final int[] friends = new int[MOST_GUESTS];
        final int[] worn = new int[MOST_GUESTS];
        final int[] row = new int[MOST_GUESTS];
        int size;

        boolean has(int i) {
            return i >= 0 && i < size;
        }

        int everyone() {
            return (1 << size) - 1;
        }

        boolean add(int tall, int night, int kind) {
            if (size >= MOST_GUESTS) {
                return false;
            }
            inches[size] = tall;
            comes[size] = night;
            kinds[size] = kind;
            friends[size] = 0;
            worn[size] = 0;
            row[size] = size;
            size++;
            return true;
        }

        boolean befriend(int i, int j) {
            if (!has(i) || !has(j) || i == j) {
                return false;
            }
            friends[i] |= 1 << j;
            return true;
        }

        int hereBy(int n) {
            int here = 0;
            for (int i = 0; i < size; i++) {
                if (comes[i] <= n) {
                    here |= 1 << i;
                }
            }
            return here;
        }

        int harmAt(int i, int n, int bedLength) {
            if (!has(i)) {
                return 0;
            }
            int grown = kinds[i] == GROWING ? Math.max(0, n - comes[i]) : 0;
            return harmBy(kinds[i], inches[i] + worn[i] + grown - bedLength);
        }

        private static int harmBy(int kind, int over) {
            int off = over < 0 ? -over : over;
            if (kind == BENT && over > 0) {
                return off > 6 ? off - 6 : 0;
            }
            if (kind == CHILD && over < 0) {
                return 2 * off;
            }
            if (kind == KNOWN) {
                return off > 2 ? off - 2 : 0;
            }
            return off;
        }

        int placeOf(int i) {
            for (int p = 0; p < size; p++) {
                if (row[p] == i) {
                    return p;
                }
            }
            return 0;
        }

        void shift(int from, int to) {
            if (!has(from) || !has(to)) {
                return;
            }
            int moved = row[from];
            for (int p = from; p < to; p++) {
                row[p] = row[p + 1];
            }
            for (int p = from; p > to; p--) {
                row[p] = row[p - 1];
            }
            row[to] = moved;
        }

        void swapPlaces(int i, int j) {
            int p = placeOf(i);
            int q = placeOf(j);
            row[p] = j;
            row[q] = i;
        }
    }

    /** All that a TEXT tells. */
    private static final class Inn {
        final Beds beds = new Beds();
        final Party party = new Party();
        final int[] rivalLengths = new int[MOST_RIVALS];
        int rivals;
        int law;

        void clear() {
            beds.clear();
            party.size = 0;
            rivals = 0;
            law = LAW_OF_FRIENDS;
        }

        boolean canOpen() {
            return beds.size > 0 && party.size > 0;
        }

        /** Takes one ITEM of so many numbers; false if it is not so. */
        boolean tell(int letter, int numbers, int x, int y, int z) {
            switch (letter) {
                case 'b':
                    return numbers == 1 && isLength(x) && beds.add(x);
                case 'f':
                    return numbers == 2 && isNight(x) && isWithin(y, 0, 9) && beds.addFeast(x, y);
                case 'g':
                    return numbers == 3 && isLength(x) && isWithin(y, 0, NIGHTS_TO_COME - 1)
                        && isWithin(z, 0, KINDS - 1) && party.add(x, y, z);
                case 'h':
                    return numbers == 2 && party.befriend(x, y);
                case 'k':
                    return numbers == 1 && enact(x);
                case 'r':
                    return numbers == 1 && isLength(x) && addRival(x);
                default:
                    return false;
            }
        }

        private boolean enact(int kind) {
            if (!isWithin(kind, 0, LAWS - 1)) {
                return false;
            }
            law = kind;
            return true;
        }

        private boolean addRival(int inches) {
            if (rivals >= MOST_RIVALS) {
                return false;
            }
            rivalLengths[rivals] = inches;
            rivals++;
            return true;
        }

        int namable(int i) {
            if (law == LAW_OF_ANY) {
                return ~(1 << i);
            }
            return law == LAW_OF_FRIENDS && party.has(i) ? party.friends[i] : 0;
        }

        int leastAtRival(int i) {
            int least = UNBOUNDED;
            int night = party.has(i) ? party.comes[i] : 0;
            for (int k = 0; k < rivals; k++) {
                least = Math.min(least, party.harmAt(i, night, rivalLengths[k]));
            }
            return least;
        }
    }

    /** THE TEXT. */
    private static final class Script {
        private static final int MOST_NUMBERS = 3;

        final char[] letters = new char[MOST_LETTERS];
        final int[] numbers = new int[MOST_NUMBERS];
        int size;
        int told;

        boolean put(char letter) {
            if (size >= MOST_LETTERS) {
                return false;
            }
            letters[size] = letter;
            size++;
            return true;
        }

        /** FAULT, or NONE, and then the inn is as told. */
        int readInto(Inn inn) {
            inn.clear();
            int start = 0;
            for (int item = 0; item < MOST_LETTERS && start < size; item++) {
                int behind = readNumbers(start + 1);
                if (behind == BAD
                    || !inn.tell(letterAt(start), told, numbers[0], numbers[1], numbers[2])) {
                    return start;
                }
                start = behind;
            }
            return NONE;
        }

        /** The place behind the ; of an ITEM, or BAD. */
        private int readNumbers(int from) {
            int at = from;
            for (int k = 0; k < MOST_NUMBERS; k++) {
                if (!isFigure(at)) {
                    return BAD;
                }
                numbers[k] = letterAt(at) - '0';
                at++;
                if (isFigure(at)) {
                    numbers[k] = 10 * numbers[k] + letterAt(at) - '0';
                    at++;
                }
                told = k + 1;
                if (letterAt(at) == ';') {
                    return at + 1;
                }
                if (letterAt(at) != ',') {
                    return BAD;
                }
                at++;
            }
            return BAD;
        }

        private boolean isFigure(int at) {
            return isWithin(letterAt(at), '0', '9');
        }

        private int letterAt(int at) {
            return at >= 0 && at < size && at < letters.length ? letters[at] : 0;
        }
    }

    /** Night by night, who is CALLED, whom he NAMES, who LIES where. */
    private static final class Nights {
        final int[] night = new int[MOST_GUESTS];
        final int[] place = new int[MOST_GUESTS];
        final int[] harms = new int[MOST_GUESTS];
        final int[] namer = new int[MOST_GUESTS];
        final int[] calls = new int[MOST_GUESTS];
        int lain;
        int sum;
        int deepest;

        /** Stops once the sum of harm is not below the bound. */
        void pass(Inn inn, int bound) {
            lain = 0;
            sum = 0;
            deepest = 0;
            for (int i = 0; i < MOST_GUESTS; i++) {
                calls[i] = 0;
            }
            int everyone = inn.party.everyone();
            for (int n = 0; n < NIGHTS && lain != everyone && sum < bound; n++) {
                fillBeds(inn, n);
            }
        }

        private void fillBeds(Inn inn, int n) {
            int waiting = inn.party.hereBy(n) & ~lain;
            for (int b = 0; b < inn.beds.open && waiting != 0; b++) {
                int caller = callFirst(inn.party, waiting);
                int inches = inn.beds.lengthOn(b, n);
                int sleeper = bestOf(inn, caller, waiting, n, inches);
                if (!inn.party.has(sleeper)) {
                    return;
                }
                night[sleeper] = n;
                place[sleeper] = b;
                harms[sleeper] = inn.party.harmAt(sleeper, n, inches);
                namer[sleeper] = sleeper == caller ? NONE : caller;
                sum += harms[sleeper];
                lain |= 1 << sleeper;
                waiting &= ~(1 << sleeper);
            }
        }

        private int callFirst(Party party, int waiting) {
            for (int p = 0; p < party.size; p++) {
                int i = party.row[p];
                if (party.has(i) && isIn(waiting, i)) {
                    deepest = Math.max(deepest, p);
                    calls[i]++;
                    return i;
                }
            }
            return NONE;
        }

        private int bestOf(Inn inn, int caller, int waiting, int n, int bedLength) {
            int namable = inn.namable(caller) & waiting;
            int best = caller;
            int least = inn.party.harmAt(caller, n, bedLength);
            for (int i = 0; i < inn.party.size; i++) {
                if (isIn(namable, i)) {
                    int harm = inn.party.harmAt(i, n, bedLength);
                    if (harm < least) {
                        least = harm;
                        best = i;
                    }
                }
            }
            return best;
        }

        boolean hasLain(int i) {
            return isIn(lain, i);
        }

        int total(Party party) {
            return sum + HARM_WITHOUT_BED * (party.size - Integer.bitCount(lain));
        }

        int unharmed(Party party) {
            int those = 0;
            for (int i = 0; i < party.size; i++) {
                if (hasLain(i) && harms[i] == 0) {
                    those++;
                }
            }
            return those;
        }

        int greatest(Party party) {
            int most = 0;
            for (int i = 0; i < party.size; i++) {
                if (hasLain(i)) {
                    most = Math.max(most, harms[i]);
                }
            }
            return most;
        }

        boolean allLainBy(Party party, int n) {
            for (int i = 0; i < party.size; i++) {
                if (!hasLain(i) || night[i] > n) {
                    return false;
                }
            }
            return true;
        }
    }

    /** ORDER, kept until something changes: it is the dearest thing to find. */
    private static final class Orders {
        final int[] row = new int[MOST_GUESTS];
        final int[] asIs = new int[MOST_GUESTS];
        int least;
        boolean known;

        void search(Inn inn, Nights nights) {
            Party party = inn.party;
            System.arraycopy(party.row, 0, asIs, 0, MOST_GUESTS);
            for (int p = 0; p < party.size; p++) {
                party.row[p] = p;
            }
            least = UNBOUNDED;
            boolean more = true;
            for (int k = 0; k < MOST_ROWS && more; k++) {
                nights.pass(inn, least);
                int sum = nights.total(party);
                if (sum < least) {
                    least = sum;
                    System.arraycopy(party.row, 0, row, 0, MOST_GUESTS);
                }
                more = toNextRow(party, nights.deepest);
            }
            System.arraycopy(asIs, 0, party.row, 0, MOST_GUESTS);
            known = true;
        }

        /**
         * The next row that differs at a looked-at place: rows that differ only behind these
         * fare no better. Falling, what is behind them makes the last of such rows, so that
         * the usual step leads beyond them all.
         */
        private static boolean toNextRow(Party party, int lookedAt) {
            letFall(party, lookedAt + 1);
            int p = party.size - 2;
            while (p >= 0 && party.row[p] > party.row[p + 1]) {
                p--;
            }
            if (p < 0) {
                return false;
            }
            int q = party.size - 1;
            while (q > p && party.row[q] < party.row[p]) {
                q--;
            }
            swap(party, p, q);
            turnRound(party, p + 1);
            return true;
        }

        private static void letFall(Party party, int from) {
            for (int p = Math.max(0, from); p < party.size; p++) {
                for (int q = p + 1; q < party.size; q++) {
                    if (party.row[q] > party.row[p]) {
                        swap(party, p, q);
                    }
                }
            }
        }

        private static void turnRound(Party party, int from) {
            int p = from;
            int q = party.size - 1;
            while (p < q) {
                swap(party, p, q);
                p++;
                q--;
            }
        }

        private static void swap(Party party, int p, int q) {
            if (party.has(p) && party.has(q)) {
                int held = party.row[p];
                party.row[p] = party.row[q];
                party.row[q] = held;
            }
        }
    }

    /** The latest changes, the oldest first. */
    private static final class Changes {
        static final int PLACE = 0;
        static final int WORN = 1;
        static final int NIGHT = 2;

        final int[] whats = new int[MOST_UNDONE];
        final int[] guests = new int[MOST_UNDONE];
        final int[] olds = new int[MOST_UNDONE];
        int size;

        void push(int what, int i, int old) {
            if (size >= MOST_UNDONE) {
                dropOldest();
            }
            whats[size] = what;
            guests[size] = i;
            olds[size] = old;
            size++;
        }

        private void dropOldest() {
            for (int k = 1; k < MOST_UNDONE; k++) {
                whats[k - 1] = whats[k];
                guests[k - 1] = guests[k];
                olds[k - 1] = olds[k];
            }
            size = MOST_UNDONE - 1;
        }

        void takeBack(Party party) {
            if (size <= 0) {
                return;
            }
            size--;
            int i = guests[size];
            if (!party.has(i)) {
                return;
            }
            switch (whats[size]) {
                case PLACE:
                    party.shift(party.placeOf(i), olds[size]);
                    break;
                case WORN:
                    party.worn[i] = olds[size];
                    break;
                default:
                    party.comes[i] = olds[size];
                    break;
            }
        }
    }

    /** KEPT ones. */
    private static final class Shelf {
        final int[][] rows = new int[MOST_KEPT][MOST_GUESTS];
        final int[][] worn = new int[MOST_KEPT][MOST_GUESTS];
        final int[][] comes = new int[MOST_KEPT][MOST_GUESTS];
        int size;

        boolean put(Party party) {
            if (size >= MOST_KEPT) {
                return false;
            }
            System.arraycopy(party.row, 0, rows[size], 0, MOST_GUESTS);
            System.arraycopy(party.worn, 0, worn[size], 0, MOST_GUESTS);
            System.arraycopy(party.comes, 0, comes[size], 0, MOST_GUESTS);
            size++;
            return true;
        }

        void takeInto(Party party) {
            if (size <= 0) {
                return;
            }
            size--;
            System.arraycopy(rows[size], 0, party.row, 0, MOST_GUESTS);
            System.arraycopy(worn[size], 0, party.worn, 0, MOST_GUESTS);
            System.arraycopy(comes[size], 0, party.comes, 0, MOST_GUESTS);
        }
    }

    /** LEFT ones. */
    private static final class Remains {
        private static final int SETS = 1 << MOST_GUESTS;

        final int[] beds = new int[MOST_LEFT];
        final int[] nights = new int[MOST_LEFT];
        final int[] harms = new int[MOST_LEFT];
        final int[] waysBySet = new int[SETS];
        int size;

        boolean has(int k) {
            return k >= 0 && k < size;
        }

        boolean add(int b, int n, int h) {
            if (size >= MOST_LEFT) {
                return false;
            }
            beds[size] = b;
            nights[size] = n;
            harms[size] = h;
            size++;
            return true;
        }

        int sleepersOf(Inn inn, int k) {
            int inches = inn.beds.lengthOn(beds[k], nights[k]);
            int here = inn.party.hereBy(nights[k]);
            int those = 0;
            for (int i = 0; i < inn.party.size; i++) {
                if (isIn(here, i) && inn.party.harmAt(i, nights[k], inches) == harms[k]) {
                    those |= 1 << i;
                }
            }
            return those;
        }

        /** WAYS in which the one that is pinned is of one of these; all WAYS, if none is. */
        int ways(Inn inn, int pinned, int these) {
            for (int set = 0; set < SETS; set++) {
                waysBySet[set] = 0;
            }
            waysBySet[0] = 1;
            for (int k = 0; k < size; k++) {
                int those = sleepersOf(inn, k);
                addOne(k, k == pinned ? those & these : those);
            }
            int ways = 0;
            for (int set = 0; set < SETS; set++) {
                if (Integer.bitCount(set) == size) {
                    ways += waysBySet[set];
                }
            }
            return ways;
        }

        /** From sets of just k guests to those of one more. */
        private void addOne(int k, int sleepers) {
            for (int set = 0; set < SETS; set++) {
                if (Integer.bitCount(set) == k && waysBySet[set] > 0) {
                    for (int i = 0; i < MOST_GUESTS; i++) {
                        if (isIn(sleepers & ~set, i)) {
                            waysBySet[set | 1 << i] += waysBySet[set];
                        }
                    }
                }
            }
        }

        int onlySleeperOf(Inn inn, int k) {
            int ways = ways(inn, NONE, 0);
            for (int i = 0; i < inn.party.size && ways > 0; i++) {
                if (ways(inn, k, 1 << i) == ways) {
                    return i;
                }
            }
            return NONE;
        }
    }
}
