import java.util.NoSuchElementException;

/** A dust yard, as ../shared/DOC.md tells it; its words in capitals are those of that document. */
public final class DustYard {
    public static final int NONE = -1;

    private static final int STREETS = 7;
    private static final int CARTS = 3;
    private static final int SIEVES = 4;
    private static final int CONTRACTS = 6;
    private static final int GRAINS = 6;
    private static final int TEXTS = 12;
    private static final int DAYS = 60;
    private static final int TAPE_BYTES = 400;
    private static final int MOST_HEAP = 9999;
    private static final int MOST_TILL = 9999;
    private static final int MOST_DAY = 9999;
    private static final int MOST_WAITS = 99;
    private static final int SIEVE_COSTS = 5;
    private static final int ROUND_BYTES = 6;
    private static final int SPAN_SEEDS = 6;
    private static final int NO_ROW = -2;

    // Of each of a carter's and a rat's choices (2 times the carter's and the rat's) what the rat has.
    private static final int[] RAT_HAS = {1, 0, -1, 2};

    private final Tape tape;
    private final State now;
    private final State draft;
    private final State kept;
    private final Law laws;
    private final Law lawDraft;
    private final Law lawKept;
    private final Memory memory;
    private final Reader reader;
    private final Rounds rounds;
    private final Deals deals;
    private final Guesses guesses;
    private final int[] shovels;
    private boolean isKept;
    private int wrongByte;

    public DustYard() {
        tape = new Tape();
        now = new State();
        draft = new State();
        kept = new State();
        laws = new Law();
        lawDraft = new Law();
        lawKept = new Law();
        memory = new Memory();
        reader = new Reader(tape, draft, lawDraft);
        rounds = new Rounds();
        deals = new Deals();
        guesses = new Guesses();
        shovels = new int[CARTS];
        isKept = false;
        wrongByte = NONE;
    }

    // ---- the TAPE and the texts

    public int feed(int a, int b, int c, int d, int e) {
        if (!tape.hasRoom()) {
            return NONE;
        }
        tape.append(a);
        tape.append(b);
        tape.append(c);
        tape.append(d);
        tape.append(e);
        return tape.size;
    }

    public boolean end(int n) {
        return tape.cut(n);
    }

    public int yard() throws IllegalArgumentException, UnsupportedOperationException {
        draft.copyFrom(now);
        boolean right = reader.reads(Reader.YARD_LINES, false);
        wrongByte = right ? NONE : tape.wrongAt();
        tape.clear();
        if (!right) {
            throw new IllegalArgumentException("the text of the yard is wrong");
        }
        if (now.texts >= TEXTS) {
            throw new UnsupportedOperationException("there are 12 texts of the yard");
        }
        draft.texts++;
        now.copyFrom(draft);
        rounds.forget();
        memory.forget();
        return now.texts;
    }

    public int law() throws IllegalArgumentException {
        lawDraft.clear();
        boolean right = reader.reads(Law.LINES, true);
        wrongByte = right ? NONE : tape.wrongAt();
        tape.clear();
        if (!right) {
            throw new IllegalArgumentException("the text of the law is wrong");
        }
        laws.copyFrom(lawDraft);
        memory.forget();
        return laws.lines;
    }

    public int fault() {
        return wrongByte;
    }

    // ---- what there is

    public int street(int street, int what) throws IndexOutOfBoundsException, NoSuchElementException {
        needStreet(street);
        switch (what) {
            case 0:
                return now.xOf(street);
            case 1:
                return now.yOf(street);
            case 2:
                return now.waitsOf(street);
            case 3:
                return now.loadOf(street);
            case 4:
                return laws.fillsOf(now, street);
            case 5:
                return laws.tollOf(now, street);
            case 6:
                return now.distance(street, NONE);
            case 7:
                return partOf(street);
            default:
                throw new NoSuchElementException("a street has what 0 to 7");
        }
    }

    public int mix(int street, int grain) throws IndexOutOfBoundsException {
        needStreet(street);
        needGrain(grain);
        return now.mixOf(street, grain);
    }

    public int cart(int cart, int what) throws IndexOutOfBoundsException, NoSuchElementException {
        needCart(cart);
        switch (what) {
            case 0:
                return now.holdOf(cart);
            case 1:
                return now.goesOf(cart);
            case 2:
                return reachedBy(cart);
            case 3:
                return now.waitsOfSet(rounds.bestSet(now, now.goesOf(cart)));
            case 4:
                return rounds.bestSet(now, now.goesOf(cart));
            default:
                throw new NoSuchElementException("a cart has what 0 to 4");
        }
    }

    public int mesh(int sieve) throws IndexOutOfBoundsException {
        if (sieve < 0 || sieve >= now.sieves) {
            throw new IndexOutOfBoundsException("there is no such sieve");
        }
        return now.meshRow[sieve];
    }

    public int contract(int contract, int what) throws IndexOutOfBoundsException, NoSuchElementException {
        needContract(contract);
        if (what < 0 || what >= State.DEAL_CELLS) {
            throw new NoSuchElementException("a contract has what 0 to 4");
        }
        return now.dealOf(contract, what);
    }

    public int heap(int grain) throws IndexOutOfBoundsException {
        needGrain(grain);
        return now.heapRow[grain];
    }

    public int way(int street, int other) throws IndexOutOfBoundsException {
        if (street != NONE) {
            needStreet(street);
        }
        if (other != NONE) {
            needStreet(other);
        }
        return now.distance(street, other);
    }

    // ---- the ACTS

    public int days(int n) throws IllegalArgumentException {
        if (n < 1 || n > DAYS) {
            throw new IllegalArgumentException("days are 1 to 60");
        }
        memory.keep(now);
        return Day.pass(now, laws, n, true);
    }

    public int tip(int street) throws IndexOutOfBoundsException, IllegalStateException {
        needStreet(street);
        if (now.waitsOf(street) < 1) {
            throw new IllegalStateException("no load waits there");
        }
        memory.keep(now);
        now.fetch(street, 1);
        return now.waitsOf(street);
    }

    public int buy(int mesh) throws IllegalArgumentException, IllegalStateException {
        if (mesh < 2 || mesh > GRAINS) {
            throw new IllegalArgumentException("a mesh is 2 to 6");
        }
        if (now.sieves >= SIEVES || now.till < SIEVE_COSTS) {
            throw new IllegalStateException("there are 4 sieves, or the till has too little");
        }
        memory.keep(now);
        now.till -= SIEVE_COSTS;
        return now.addSieve(mesh);
    }

    public int take(int low, int high, int many, int pays) throws IllegalArgumentException, IllegalStateException {
        boolean ranges = low >= 1 && low <= high && high <= GRAINS;
        if (!ranges || many < 1 || many > 99 || pays < 0 || pays > 9) {
            throw new IllegalArgumentException("there is no such contract");
        }
        if (now.contracts >= CONTRACTS) {
            throw new IllegalStateException("there are 6 contracts");
        }
        memory.keep(now);
        return now.addContract(low, high, many, pays);
    }

    public void drop(int contract) throws IndexOutOfBoundsException, IllegalStateException {
        needContract(contract);
        if (!now.isOpen(contract)) {
            throw new IllegalStateException("the contract is not open");
        }
        memory.keep(now);
        now.close(contract);
    }

    public int hire(int hold, int goes) throws IllegalArgumentException, IllegalStateException {
        if (hold < 1 || hold > 9 || goes < 1 || goes > 99) {
            throw new IllegalArgumentException("there is no such cart");
        }
        if (now.carts >= CARTS) {
            throw new IllegalStateException("there are 3 carts");
        }
        memory.keep(now);
        return now.addCart(hold, goes);
    }

    public int lay(int street, int grain, int n) throws IndexOutOfBoundsException, IllegalArgumentException {
        needStreet(street);
        needGrain(grain);
        if (n < 0 || n > 9) {
            throw new IllegalArgumentException("a load has 0 to 9 of a grain");
        }
        memory.keep(now);
        int had = now.mixOf(street, grain);
        now.setMix(street, grain, n);
        return had;
    }

    public boolean douse() {
        memory.keep(now);
        boolean was = now.smoke;
        now.smoke = false;
        return was;
    }

    public int fill(int contract) throws IndexOutOfBoundsException, IllegalStateException {
        needContract(contract);
        if (!now.canSettle(contract)) {
            throw new IllegalStateException("the contract is not open, or the heap has too few");
        }
        memory.keep(now);
        now.settle(contract, Log.BY_HAND);
        return now.till;
    }

    // ---- SIEVES and the HEAP

    public int classes(int sieves) {
        return 1 + Integer.bitCount(now.cutsOf(sieves));
    }

    public int classOf(int sieves, int grain) throws IndexOutOfBoundsException {
        needGrain(grain);
        int cuts = now.cutsOf(sieves);
        return 10 * runLow(cuts, grain) + runHigh(cuts, grain);
    }

    public int held(int sieves, int grain) throws IndexOutOfBoundsException {
        needGrain(grain);
        int cuts = now.cutsOf(sieves);
        return now.heapSum(runLow(cuts, grain), runHigh(cuts, grain));
    }

    public int fewest() {
        int needed = cutsNeeded();
        int cuts = 0;
        int set = 0;
        // Of sieves of one mesh the first makes the least bits, and no cut needs more than one sieve.
        for (int sieve = 0; sieve < now.sieves; sieve++) {
            int cut = 1 << now.meshRow[sieve];
            if ((needed & cut) != 0 && (cuts & cut) == 0) {
                cuts |= cut;
                set |= 1 << sieve;
            }
        }
        return cuts == needed ? set : NONE;
    }

    public int clean(int contract, int sieves) throws IndexOutOfBoundsException {
        needContract(contract);
        int cuts = now.cutsOf(sieves);
        int low = now.lowOf(contract);
        int high = now.highOf(contract);
        int all = now.heapSum(runLow(cuts, low), runHigh(cuts, high));
        return all == 0 ? 100 : now.heapSum(low, high) * 100 / all;
    }

    // ---- rounds

    public int round() throws IllegalArgumentException {
        int set = streetsTold();
        tape.clear();
        if (set == NONE) {
            throw new IllegalArgumentException("the tape does not tell at most 6 streets");
        }
        return rounds.leastWay(now, set);
    }

    public int trips(int n) throws IllegalArgumentException {
        if (n < 0 || n > 99) {
            throw new IllegalArgumentException("a round is of 0 to 99");
        }
        return rounds.fewestSets(now, n);
    }

    // ---- CONTRACTS, loads and guesses

    public int worth() {
        deals.weigh(now);
        return deals.bestWorth;
    }

    public int serves() {
        deals.weigh(now);
        return deals.bestSet;
    }

    public int blend(int street, int other, int grain, int p)
            throws IndexOutOfBoundsException, IllegalArgumentException {
        needStreet(street);
        needStreet(other);
        needGrain(grain);
        if (street == other || p < 0 || p > 100) {
            throw new IllegalArgumentException("both streets are one, or there are no such hundredths");
        }
        for (int loads = 1; loads <= 18; loads++) {
            for (int first = Math.max(0, loads - 9); first <= Math.min(9, loads); first++) {
                int all = first * now.loadOf(street) + (loads - first) * now.loadOf(other);
                int some = first * now.mixOf(street, grain) + (loads - first) * now.mixOf(other, grain);
                if (all > 0 && 100 * some >= p * all) {
                    return 10 * first + loads - first;
                }
            }
        }
        return NONE;
    }

    public int from() throws IllegalArgumentException {
        needRows(Guesses.MOST_OF_GRAIN);
        return guesses.streetsThatFit(now);
    }

    public int likely() throws IllegalArgumentException {
        needRows(Guesses.MOST_OF_GRAIN);
        return guesses.likeliest(now);
    }

    public int ask() throws IllegalArgumentException {
        needRows(Guesses.MOST_OF_GRAIN);
        return guesses.grainToAsk(now);
    }

    public int meshes(boolean first) throws IllegalArgumentException {
        needRows(Guesses.MOST_PASSES);
        return first ? guesses.firstPair() : guesses.pairsThatFit();
    }

    public int sift() throws IllegalArgumentException {
        needRows(Guesses.MOST_PASSES);
        return guesses.grainToSift();
    }

    // ---- games, pairs, shares and odds

    public int ends() {
        return lead(1, GRAINS);
    }

    public int side() {
        int byLeast = now.heapRow[1] - lead(2, GRAINS);
        int byGreatest = now.heapRow[GRAINS] - lead(1, GRAINS - 1);
        return byLeast >= byGreatest ? 0 : 1;
    }

    public int pairs(int contract) throws IndexOutOfBoundsException {
        if (contract != NONE) {
            needContract(contract);
        }
        deals.putTwoByTwo(now);
        return contract == NONE ? deals.bestPays : deals.bestWith[contract];
    }

    public int share(int cart, int n) throws IndexOutOfBoundsException, IllegalArgumentException {
        needCart(cart);
        if (n < 0 || n > 99) {
            throw new IllegalArgumentException("shovels are 0 to 99");
        }
        for (int i = 0; i < CARTS; i++) {
            shovels[i] = 0;
        }
        for (int given = 0; given < n; given++) {
            shovels[nextForShovel()]++;
        }
        return shovels[cart];
    }

    public int rests(int street) throws IndexOutOfBoundsException {
        needStreet(street);
        int tens = now.waitsOf(street) / 10;
        int set = 0;
        for (int choice = 0; choice < 4; choice++) {
            boolean carterStays = carterHas(tens, choice) >= carterHas(tens, choice ^ 2);
            boolean ratStays = RAT_HAS[choice] >= RAT_HAS[choice ^ 1];
            if (carterStays && ratStays) {
                set |= 1 << choice;
            }
        }
        return set;
    }

    public int odds(int n, int k) throws IllegalArgumentException {
        if (n < 0 || n > 5 || k < 0 || k > 5) {
            throw new IllegalArgumentException("days and fires are 0 to 5");
        }
        long all = waysOfFire(n, 0);
        return all < 1 ? 0 : (int) (waysOfFire(n, k) * 10000 / all);
    }

    // ---- the most, sets and counts

    public int most(int what) throws NoSuchElementException {
        switch (what) {
            case 0:
                return fullest();
            case 1:
                return farthest();
            case 2:
                return richest();
            default:
                throw new NoSuchElementException("the most are what 0 to 2");
        }
    }

    public int open(boolean can) {
        int set = 0;
        for (int contract = 0; contract < now.contracts; contract++) {
            if (can ? now.canSettle(contract) : now.isOpen(contract)) {
                set |= 1 << contract;
            }
        }
        return set;
    }

    public int twins() {
        int pairs = 0;
        for (int street = 0; street < now.streets; street++) {
            for (int other = street + 1; other < now.streets; other++) {
                if (now.isAlike(street, other)) {
                    pairs++;
                }
            }
        }
        return pairs;
    }

    public int wanted(int grain) throws IndexOutOfBoundsException {
        needGrain(grain);
        int set = 0;
        for (int contract = 0; contract < now.contracts; contract++) {
            boolean wants = now.lowOf(contract) <= grain && grain <= now.highOf(contract);
            if (wants && now.isOpen(contract)) {
                set |= 1 << contract;
            }
        }
        return set;
    }

    // ---- DAYS that do not stay

    public int ahead(int street, int n) throws IndexOutOfBoundsException, IllegalArgumentException {
        if (street != NONE) {
            needStreet(street);
        }
        needTrialDays(n);
        draft.copyFrom(now);
        Day.pass(draft, laws, n, false);
        return street == NONE ? draft.heapSum(1, GRAINS) : draft.waitsOf(street);
    }

    public int trial(int n, boolean heap) throws IllegalArgumentException {
        needTrialDays(n);
        draft.copyFrom(now);
        Day.pass(draft, laws, n, true);
        return heap ? draft.heapSum(1, GRAINS) : draft.till;
    }

    public int span(int n, boolean most) throws IllegalArgumentException {
        needTrialDays(n);
        int found = most ? 0 : MOST_TILL;
        for (int first = 1; first <= SPAN_SEEDS; first++) {
            draft.copyFrom(now);
            draft.seed = first;
            Day.pass(draft, laws, n, true);
            found = most ? Math.max(found, draft.till) : Math.min(found, draft.till);
        }
        return found;
    }

    // ---- THE LOG, going back, counts

    public int led(int street, boolean day) throws IndexOutOfBoundsException {
        needStreet(street);
        return day ? now.rows.latestDayOf(street) : now.rows.rowsOf(street);
    }

    public int log(int ago, int what) throws NoSuchElementException {
        if (what < 0 || what >= Log.CELLS) {
            throw new NoSuchElementException("a row of the log has what 0 to 4");
        }
        return now.rows.cell(ago, what);
    }

    public int seed(int n) {
        int was = now.seed;
        now.seed = n;
        return was;
    }

    public boolean undo() {
        return memory.undoInto(now);
    }

    public void image() {
        kept.copyFrom(now);
        lawKept.copyFrom(laws);
        isKept = true;
    }

    public boolean back() {
        if (!isKept) {
            return false;
        }
        now.copyFrom(kept);
        laws.copyFrom(lawKept);
        rounds.forget();
        memory.forget();
        return true;
    }

    public int count(int what) {
        switch (what) {
            case 0:
                return now.streets;
            case 1:
                return now.carts;
            case 2:
                return now.sieves;
            case 3:
                return now.contracts;
            case 4:
                return now.texts;
            case 5:
                return laws.lines;
            case 6:
                return now.fire;
            case 7:
                return now.rats;
            case 8:
                return now.till;
            case 9:
                return now.day;
            case 10:
                return now.smoke ? 1 : 0;
            case 11:
                return now.rows.size;
            case 12:
                return memory.size;
            default:
                return NONE;
        }
    }

    // ---- what the face needs

    private void needStreet(int street) {
        if (street < 0 || street >= now.streets) {
            throw new IndexOutOfBoundsException("there is no such street");
        }
    }

    private void needCart(int cart) {
        if (cart < 0 || cart >= now.carts) {
            throw new IndexOutOfBoundsException("there is no such cart");
        }
    }

    private void needContract(int contract) {
        if (contract < 0 || contract >= now.contracts) {
            throw new IndexOutOfBoundsException("there is no such contract");
        }
    }

    private static void needGrain(int grain) {
        if (grain < 1 || grain > GRAINS) {
            throw new IndexOutOfBoundsException("there is no such grain");
        }
    }

    private static void needTrialDays(int n) {
        if (n < 0 || n > DAYS) {
            throw new IllegalArgumentException("days are 0 to 60");
        }
    }

    private void needRows(int most) {
        boolean right = guesses.reads(tape, most);
        tape.clear();
        if (!right) {
            throw new IllegalArgumentException("the tape does not tell rows of a grain and a number");
        }
    }

    private int partOf(int street) {
        int all = 0;
        for (int i = 0; i < now.streets; i++) {
            all += now.waitsOf(i);
        }
        return all == 0 ? 0 : now.waitsOf(street) * 100 / all;
    }

    private int reachedBy(int cart) {
        int set = 0;
        for (int street = 0; street < now.streets; street++) {
            if (now.isReached(cart, street)) {
                set |= 1 << street;
            }
        }
        return set;
    }

    private static boolean isCut(int cuts, int mesh) {
        return (cuts >> mesh & 1) != 0;
    }

    private static int runLow(int cuts, int grain) {
        int low = grain;
        while (low > 1 && !isCut(cuts, low)) {
            low--;
        }
        return low;
    }

    private static int runHigh(int cuts, int grain) {
        int high = grain;
        while (high < GRAINS && !isCut(cuts, high + 1)) {
            high++;
        }
        return high;
    }

    private int cutsNeeded() {
        int needed = 0;
        for (int contract = 0; contract < now.contracts; contract++) {
            if (now.isOpen(contract)) {
                // No sieve is needed below the finest grain nor above the coarsest one.
                needed |= now.lowOf(contract) > 1 ? 1 << now.lowOf(contract) : 0;
                needed |= now.highOf(contract) < GRAINS ? 1 << now.highOf(contract) + 1 : 0;
            }
        }
        return needed;
    }

    private int streetsTold() {
        if (tape.size > ROUND_BYTES) {
            return NONE;
        }
        int set = 0;
        for (int i = 0; i < tape.size; i++) {
            int street = tape.bytes[i];
            if (street >= now.streets) {
                return NONE;
            }
            set |= 1 << street;
        }
        return set;
    }

    /** How much more who is on turn has in the end of the grains low to high; six grains are six levels. */
    private int lead(int low, int high) {
        if (low < 1 || high > GRAINS || low > high) {
            return 0;
        }
        int byLeast = now.heapRow[low] - lead(low + 1, high);
        int byGreatest = now.heapRow[high] - lead(low, high - 1);
        return Math.max(byLeast, byGreatest);
    }

    private int nextForShovel() {
        int best = 0;
        for (int cart = 1; cart < now.carts; cart++) {
            if (now.holdOf(cart) / (shovels[cart] + 1) > now.holdOf(best) / (shovels[best] + 1)) {
                best = cart;
            }
        }
        return best;
    }

    private static int carterHas(int tens, int choice) {
        switch (choice) {
            case 0:
                return tens - 3;
            case 1:
                return tens;
            case 2:
                return 0;
            default:
                return 1;
        }
    }

    /** Of 100 to the power of n ways, in how many there are k fires at least. */
    private long waysOfFire(int n, int k) {
        if (n <= 0) {
            return k <= 0 ? 1 : 0;
        }
        return now.fire * waysOfFire(n - 1, k - 1) + (100 - now.fire) * waysOfFire(n - 1, k);
    }

    private int fullest() {
        int best = NONE;
        for (int street = 0; street < now.streets; street++) {
            if (best == NONE || now.waitsOf(street) > now.waitsOf(best)) {
                best = street;
            }
        }
        return best;
    }

    private int farthest() {
        int best = NONE;
        for (int street = 0; street < now.streets; street++) {
            if (best == NONE || now.distance(street, NONE) > now.distance(best, NONE)) {
                best = street;
            }
        }
        return best;
    }

    private int richest() {
        int best = NONE;
        for (int contract = 0; contract < now.contracts; contract++) {
            if (best == NONE || now.priceOf(contract) > now.priceOf(best)) {
                best = contract;
            }
        }
        return best;
    }

    /** The TAPE, and the things of the text on it: words, numbers and signs, read one after another. */
    private static final class Tape {
        static final int FEED_BYTES = 20;
        static final int MOST_DIGITS = 3;
        static final int BLANK = 0;
        static final int LETTER = 1;
        static final int DIGIT = 2;
        static final int SIGN = 3;

        final int[] bytes = new int[TAPE_BYTES];
        // Behind the last thing stands one of no length at the text's end: what is wrong there is its length.
        final int[] begins = new int[TAPE_BYTES + 1];
        final int[] ends = new int[TAPE_BYTES + 1];
        int size;
        int things;
        int next;

        boolean hasRoom() {
            return size + FEED_BYTES <= TAPE_BYTES;
        }

        void append(int number) {
            for (int shift = 24; shift >= 0 && size < TAPE_BYTES; shift -= 8) {
                bytes[size] = number >> shift & 255;
                size++;
            }
        }

        boolean cut(int n) {
            if (n < 0 || n > size) {
                return false;
            }
            size = n;
            return true;
        }

        void clear() {
            size = 0;
        }

        void partIntoThings() {
            next = 0;
            things = 0;
            int before = BLANK;
            for (int at = 0; at < size; at++) {
                int kind = kindOf(bytes[at]);
                boolean goesOn = kind == before && (kind == LETTER || kind == DIGIT);
                if (goesOn && things > 0) {
                    ends[things - 1] = at + 1;
                } else if (kind != BLANK) {
                    begins[things] = at;
                    ends[things] = at + 1;
                    things++;
                }
                before = kind;
            }
            begins[things] = size;
            ends[things] = size;
        }

        private static int kindOf(int sign) {
            if (sign == ' ') {
                return BLANK;
            }
            if (sign >= 'a' && sign <= 'z') {
                return LETTER;
            }
            return sign >= '0' && sign <= '9' ? DIGIT : SIGN;
        }

        /** Nothing is stepped over that cannot stand there, so the next thing is the first wrong one. */
        int wrongAt() {
            return begins[next];
        }

        boolean atEnd() {
            return next >= things;
        }

        /** Takes the latest thing back, as it cannot stand there after all. */
        boolean refuse() {
            next = Math.max(0, next - 1);
            return false;
        }

        boolean takesSign(char sign) {
            if (next >= things || bytes[begins[next]] != sign) {
                return false;
            }
            next++;
            return true;
        }

        boolean takesWord(String word) {
            int begin = begins[next];
            if (ends[next] - begin != word.length()) {
                return false;
            }
            for (int i = 0; i < word.length(); i++) {
                if (bytes[begin + i] != word.charAt(i)) {
                    return false;
                }
            }
            next++;
            return true;
        }

        /** The number that comes, or NONE if there is none from least to greatest. */
        int takeNumber(int least, int greatest) {
            int digits = ends[next] - begins[next];
            if (digits < 1 || digits > MOST_DIGITS) {
                return NONE;
            }
            int value = 0;
            for (int at = begins[next]; at < ends[next]; at++) {
                if (bytes[at] < '0' || bytes[at] > '9') {
                    return NONE;
                }
                value = 10 * value + bytes[at] - '0';
            }
            if (value < least || value > greatest) {
                return NONE;
            }
            next++;
            return value;
        }

        /** Where just so many figures begin, or NONE. */
        int takeFigures(int many) {
            int begin = begins[next];
            if (many < 1 || ends[next] - begin != many || kindOf(bytes[begin]) != DIGIT) {
                return NONE;
            }
            next++;
            return begin;
        }
    }

    /** All that DAYS and ACTS change, in one piece, so that it is copied whole for trials, undoing and the image. */
    private static final class State {
        static final int PLACE_CELLS = 3;
        static final int CART_CELLS = 2;
        static final int DEAL_CELLS = 5;
        static final int OPEN_CELL = 4;

        final int[] placeRows = new int[STREETS * PLACE_CELLS];
        final int[] mixRows = new int[STREETS * GRAINS];
        final int[] cartRows = new int[CARTS * CART_CELLS];
        final int[] meshRow = new int[SIEVES];
        final int[] dealRows = new int[CONTRACTS * DEAL_CELLS];
        final int[] heapRow = new int[GRAINS + 1];
        final Log rows = new Log();
        int streets;
        int carts;
        int sieves;
        int contracts;
        int texts;
        int fire;
        int rats;
        int till;
        int day;
        boolean smoke;
        int seed = 1;

        void copyFrom(State other) {
            System.arraycopy(other.placeRows, 0, placeRows, 0, placeRows.length);
            System.arraycopy(other.mixRows, 0, mixRows, 0, mixRows.length);
            System.arraycopy(other.cartRows, 0, cartRows, 0, cartRows.length);
            System.arraycopy(other.meshRow, 0, meshRow, 0, meshRow.length);
            System.arraycopy(other.dealRows, 0, dealRows, 0, dealRows.length);
            System.arraycopy(other.heapRow, 0, heapRow, 0, heapRow.length);
            rows.copyFrom(other.rows);
            streets = other.streets;
            carts = other.carts;
            sieves = other.sieves;
            contracts = other.contracts;
            texts = other.texts;
            fire = other.fire;
            rats = other.rats;
            till = other.till;
            day = other.day;
            smoke = other.smoke;
            seed = other.seed;
        }

        int addStreet(int x, int y, int waits) {
            if (streets >= STREETS) {
                return NONE;
            }
            placeRows[streets * PLACE_CELLS] = x;
            placeRows[streets * PLACE_CELLS + 1] = y;
            placeRows[streets * PLACE_CELLS + 2] = waits;
            streets++;
            return streets - 1;
        }

        int addCart(int hold, int goes) {
            if (carts >= CARTS) {
                return NONE;
            }
            cartRows[carts * CART_CELLS] = hold;
            cartRows[carts * CART_CELLS + 1] = goes;
            carts++;
            return carts - 1;
        }

        int addSieve(int mesh) {
            if (sieves >= SIEVES) {
                return NONE;
            }
            meshRow[sieves] = mesh;
            sieves++;
            return sieves - 1;
        }

        int addContract(int low, int high, int many, int pays) {
            if (contracts >= CONTRACTS) {
                return NONE;
            }
            int at = contracts * DEAL_CELLS;
            dealRows[at] = low;
            dealRows[at + 1] = high;
            dealRows[at + 2] = many;
            dealRows[at + 3] = pays;
            dealRows[at + OPEN_CELL] = 1;
            contracts++;
            return contracts - 1;
        }

        int xOf(int street) {
            return street == NONE ? 0 : placeRows[street * PLACE_CELLS];
        }

        int yOf(int street) {
            return street == NONE ? 0 : placeRows[street * PLACE_CELLS + 1];
        }

        int waitsOf(int street) {
            return placeRows[street * PLACE_CELLS + 2];
        }

        void setWaits(int street, int waits) {
            placeRows[street * PLACE_CELLS + 2] = waits;
        }

        int mixOf(int street, int grain) {
            return mixRows[street * GRAINS + grain - 1];
        }

        void setMix(int street, int grain, int n) {
            mixRows[street * GRAINS + grain - 1] = n;
        }

        int loadOf(int street) {
            int all = 0;
            for (int i = street * GRAINS; i < (street + 1) * GRAINS; i++) {
                all += mixRows[i];
            }
            return all;
        }

        boolean isAlike(int street, int other) {
            for (int grain = 1; grain <= GRAINS; grain++) {
                if (mixOf(street, grain) != mixOf(other, grain)) {
                    return false;
                }
            }
            return true;
        }

        /** WAY of two STREETS; NONE is THE YARD. */
        int distance(int street, int other) {
            return Math.abs(xOf(street) - xOf(other)) + Math.abs(yOf(street) - yOf(other));
        }

        int waitingSet() {
            int set = 0;
            for (int street = 0; street < streets; street++) {
                if (waitsOf(street) > 0) {
                    set |= 1 << street;
                }
            }
            return set;
        }

        int waitsOfSet(int set) {
            int all = 0;
            for (int street = 0; street < streets; street++) {
                if ((set >> street & 1) != 0) {
                    all += waitsOf(street);
                }
            }
            return all;
        }

        int holdOf(int cart) {
            return cartRows[cart * CART_CELLS];
        }

        int goesOf(int cart) {
            return cartRows[cart * CART_CELLS + 1];
        }

        boolean isReached(int cart, int street) {
            return 2 * distance(street, NONE) <= goesOf(cart);
        }

        /** Loads go from a STREET into the HEAP. */
        void fetch(int street, int loads) {
            setWaits(street, waitsOf(street) - loads);
            for (int grain = 1; grain <= GRAINS; grain++) {
                heapRow[grain] = Math.min(MOST_HEAP, heapRow[grain] + loads * mixOf(street, grain));
            }
        }

        int heapSum(int low, int high) {
            int all = 0;
            for (int grain = Math.max(1, low); grain <= Math.min(GRAINS, high); grain++) {
                all += heapRow[grain];
            }
            return all;
        }

        /** The GRAINS at which a run begins by a set of SIEVES, as bits. */
        int cutsOf(int set) {
            int cuts = 0;
            for (int sieve = 0; sieve < sieves; sieve++) {
                if ((set >> sieve & 1) != 0) {
                    cuts |= 1 << meshRow[sieve];
                }
            }
            return cuts;
        }

        int dealOf(int contract, int what) {
            return dealRows[contract * DEAL_CELLS + what];
        }

        int lowOf(int contract) {
            return dealOf(contract, 0);
        }

        int highOf(int contract) {
            return dealOf(contract, 1);
        }

        int manyOf(int contract) {
            return dealOf(contract, 2);
        }

        int paysOf(int contract) {
            return dealOf(contract, 3);
        }

        int priceOf(int contract) {
            return manyOf(contract) * paysOf(contract);
        }

        boolean isOpen(int contract) {
            return dealOf(contract, OPEN_CELL) == 1;
        }

        void close(int contract) {
            dealRows[contract * DEAL_CELLS + OPEN_CELL] = 0;
        }

        boolean canSettle(int contract) {
            return isOpen(contract) && heapSum(lowOf(contract), highOf(contract)) >= manyOf(contract);
        }

        /** A CONTRACT is FILLED; the coarsest of its grains go first. */
        void settle(int contract, int kind) {
            int left = manyOf(contract);
            for (int grain = highOf(contract); grain >= lowOf(contract); grain--) {
                int some = Math.min(left, heapRow[grain]);
                heapRow[grain] -= some;
                left -= some;
            }
            till = Math.min(MOST_TILL, till + priceOf(contract));
            close(contract);
            rows.add(day, contract, kind, NONE, manyOf(contract));
        }

        int draw() {
            seed = 1103515245 * seed + 12345;
            return seed >> 16 & 32767;
        }
    }

    /** THE LOG: a ring of its latest rows. */
    private static final class Log {
        static final int ROWS = 60;
        static final int CELLS = 5;
        static final int BY_CART = 0;
        static final int BY_DAY = 1;
        static final int BY_HAND = 2;

        final int[] cells = new int[ROWS * CELLS];
        int size;
        int next;

        void copyFrom(Log other) {
            System.arraycopy(other.cells, 0, cells, 0, cells.length);
            size = other.size;
            next = other.next;
        }

        void add(int day, int who, int kind, int street, int many) {
            int at = next * CELLS;
            cells[at] = day;
            cells[at + 1] = who;
            cells[at + 2] = kind;
            cells[at + 3] = street;
            cells[at + 4] = many;
            next = next + 1 < ROWS ? next + 1 : 0;
            size = Math.min(ROWS, size + 1);
        }

        int cell(int ago, int what) {
            if (ago < 0 || ago >= size) {
                return NO_ROW;
            }
            int row = next - 1 - ago;
            return cells[(row < 0 ? row + ROWS : row) * CELLS + what];
        }

        /** Rows of contracts have no street, so the street alone tells them from those of carts. */
        int rowsOf(int street) {
            int found = 0;
            for (int ago = 0; ago < size; ago++) {
                if (cell(ago, 3) == street) {
                    found++;
                }
            }
            return found;
        }

        int latestDayOf(int street) {
            for (int ago = 0; ago < size; ago++) {
                if (cell(ago, 3) == street) {
                    return cell(ago, 0);
                }
            }
            return NONE;
        }
    }

    /** What was ahead of the latest ACTS. */
    private static final class Memory {
        static final int ACTS = 12;

        final State[] states = new State[ACTS];
        int size;
        int next;

        Memory() {
            for (int i = 0; i < ACTS; i++) {
                states[i] = new State();
            }
        }

        void keep(State now) {
            states[next].copyFrom(now);
            next = next + 1 < ACTS ? next + 1 : 0;
            size = Math.min(ACTS, size + 1);
        }

        boolean undoInto(State now) {
            if (size == 0) {
                return false;
            }
            next = next > 0 ? next - 1 : ACTS - 1;
            size--;
            now.copyFrom(states[next]);
            return true;
        }

        void forget() {
            size = 0;
        }
    }

    /** THE LAW: of each LINE its kind, its number, and its condition as a piece of code that works on a stack. */
    private static final class Law {
        static final int LINES = 12;
        static final int MORE_LINE = 0;
        static final int LESS_LINE = 1;
        static final int TOLL_LINE = 2;

        static final int NUMBER = 0;
        static final int STREET = 1;
        static final int X = 2;
        static final int Y = 3;
        static final int WAITS = 4;
        static final int LOADS = 5;
        static final int TILL = 6;
        static final int DAY = 7;
        static final int SMOKE = 8;
        static final int FAR = 9;
        static final int FULL = 10;
        static final int NOT = 11;
        static final int PLUS = 12;
        static final int BELOW = 13;
        static final int ABOVE = 14;
        static final int AND = 15;
        static final int OR = 16;
        // A cell of the code has the op in its low bits, and above these what a NUMBER is.
        static final int OP_BITS = 5;
        static final int OP_MASK = 31;

        int lines = NONE;
        int used;
        final int[] kinds = new int[LINES];
        final int[] amounts = new int[LINES];
        final int[] begins = new int[LINES];
        final int[] ends = new int[LINES];
        // No op has less than a byte of the text.
        final int[] code = new int[TAPE_BYTES];
        // Two wait for an or and an and on each level within a (, three in a comparison: some seventeen.
        final int[] stack = new int[32];

        void copyFrom(Law other) {
            lines = other.lines;
            used = other.used;
            System.arraycopy(other.kinds, 0, kinds, 0, LINES);
            System.arraycopy(other.amounts, 0, amounts, 0, LINES);
            System.arraycopy(other.begins, 0, begins, 0, LINES);
            System.arraycopy(other.ends, 0, ends, 0, LINES);
            System.arraycopy(other.code, 0, code, 0, TAPE_BYTES);
        }

        void clear() {
            lines = 0;
            used = 0;
        }

        void emit(int op, int value) {
            if (op != NONE && used < TAPE_BYTES) {
                code[used] = value << OP_BITS | op;
                used++;
            }
        }

        void addLine(int kind, int amount, int begin) {
            if (lines >= 0 && lines < LINES) {
                kinds[lines] = kind;
                amounts[lines] = amount;
                begins[lines] = begin;
                ends[lines] = used;
                lines++;
            }
        }

        int fillsOf(State state, int street) {
            int sum = 1;
            for (int line = 0; line < lines; line++) {
                if (kinds[line] != TOLL_LINE && holds(line, state, street)) {
                    sum += kinds[line] == MORE_LINE ? amounts[line] : -amounts[line];
                }
            }
            return Math.max(0, sum);
        }

        int tollOf(State state, int street) {
            int sum = 0;
            for (int line = 0; line < lines; line++) {
                if (kinds[line] == TOLL_LINE && holds(line, state, street)) {
                    sum += amounts[line];
                }
            }
            return sum;
        }

        private boolean holds(int line, State state, int street) {
            int top = 0;
            for (int i = begins[line]; i < ends[line]; i++) {
                int op = code[i] & OP_MASK;
                if (op < NOT && top < stack.length) {
                    stack[top] = op == NUMBER ? code[i] >> OP_BITS : valueOf(op, state, street);
                    top++;
                } else if (op == NOT && top >= 1) {
                    stack[top - 1] = 1 - stack[top - 1];
                } else if (top >= 2) {
                    top--;
                    stack[top - 1] = join(op, stack[top - 1], stack[top]);
                }
            }
            // A line without a condition leaves nothing there, and always holds.
            return top == 0 || stack[top - 1] != 0;
        }

        private static int valueOf(int op, State state, int street) {
            switch (op) {
                case STREET:
                    return street;
                case X:
                    return state.xOf(street);
                case Y:
                    return state.yOf(street);
                case WAITS:
                    return state.waitsOf(street);
                case LOADS:
                    return state.loadOf(street);
                case TILL:
                    return state.till;
                case DAY:
                    return state.day % 100;
                case SMOKE:
                    return state.smoke ? 1 : 0;
                case FAR:
                    return state.xOf(street) + state.yOf(street) > 9 ? 1 : 0;
                default:
                    return state.waitsOf(street) >= 20 ? 1 : 0;
            }
        }

        private static int join(int op, int left, int right) {
            switch (op) {
                case PLUS:
                    return left + right;
                case BELOW:
                    return left < right ? 1 : 0;
                case ABOVE:
                    return left > right ? 1 : 0;
                case AND:
                    return left & right;
                default:
                    return left | right;
            }
        }
    }

    /** How a DAY goes by. */
    private static final class Day {
        /** So many DAYS, with draws of fires and rats or without: how many CONTRACTS were FILLED. */
        static int pass(State state, Law law, int n, boolean draws) {
            int filled = 0;
            for (int i = 0; i < n; i++) {
                fillBins(state, law);
                for (int cart = 0; cart < state.carts; cart++) {
                    sendOut(state, law, cart);
                }
                if (draws) {
                    burnAndGnaw(state);
                }
                filled += settleAll(state);
                state.day = Math.min(MOST_DAY, state.day + 1);
            }
            return filled;
        }

        /** FILLS of a STREET look at no other STREET's WAITS, so each may be filled at once. */
        private static void fillBins(State state, Law law) {
            for (int street = 0; street < state.streets; street++) {
                int waits = state.waitsOf(street) + law.fillsOf(state, street);
                state.setWaits(street, Math.min(MOST_WAITS, waits));
            }
        }

        private static void sendOut(State state, Law law, int cart) {
            int best = NONE;
            int bestWaits = 0;
            int bestToll = 0;
            for (int street = 0; street < state.streets; street++) {
                if (state.waitsOf(street) > bestWaits && state.isReached(cart, street)) {
                    int toll = law.tollOf(state, street);
                    if (toll <= state.till) {
                        best = street;
                        bestWaits = state.waitsOf(street);
                        bestToll = toll;
                    }
                }
            }
            if (best != NONE) {
                int loads = Math.min(bestWaits, state.holdOf(cart));
                state.till -= bestToll;
                state.fetch(best, loads);
                state.rows.add(state.day, cart, Log.BY_CART, best, loads);
            }
        }

        private static void burnAndGnaw(State state) {
            state.smoke = state.draw() % 100 < state.fire;
            if (state.smoke) {
                state.heapRow[5] /= 2;
                state.heapRow[6] /= 2;
            }
            if (state.draw() % 100 < state.rats) {
                state.heapRow[4] /= 2;
            }
        }

        private static int settleAll(State state) {
            int filled = 0;
            for (int contract = 0; contract < state.contracts; contract++) {
                if (state.canSettle(contract)) {
                    state.settle(contract, Log.BY_DAY);
                    filled++;
                }
            }
            return filled;
        }
    }

    /** Reads a text of THE YARD or of THE LAW into a draft, of which nothing stays if the text is wrong. */
    private static final class Reader {
        static final int YARD_LINES = 14;
        static final int DEEPEST = 6;

        final Tape tape;
        final State yardDraft;
        final Law lawDraft;

        Reader(Tape tape, State yardDraft, Law lawDraft) {
            this.tape = tape;
            this.yardDraft = yardDraft;
            this.lawDraft = lawDraft;
        }

        boolean reads(int most, boolean ofLaw) {
            tape.partIntoThings();
            if (tape.atEnd()) {
                return true;
            }
            for (int line = 0; line < most; line++) {
                boolean right = ofLaw ? readsLawLine() : readsYardLine();
                if (!right) {
                    return false;
                }
                if (tape.atEnd()) {
                    return true;
                }
                if (!tape.takesSign(';')) {
                    return false;
                }
            }
            return false;
        }

        private boolean readsYardLine() {
            if (tape.takesWord("street")) {
                return yardDraft.streets < STREETS ? readsStreet() : tape.refuse();
            }
            if (tape.takesWord("cart")) {
                return yardDraft.carts < CARTS ? readsCart() : tape.refuse();
            }
            if (tape.takesWord("sieve")) {
                return yardDraft.sieves < SIEVES ? readsSieve() : tape.refuse();
            }
            if (tape.takesWord("contract")) {
                return yardDraft.contracts < CONTRACTS ? readsContract() : tape.refuse();
            }
            if (tape.takesWord("heap")) {
                return readsHeap();
            }
            return readsRest();
        }

        private boolean readsStreet() {
            int x = tape.takesWord("at") ? tape.takeNumber(0, 9) : NONE;
            int y = x != NONE ? tape.takeNumber(0, 9) : NONE;
            if (y == NONE || !tape.takesWord("mix")) {
                return false;
            }
            int figures = tape.takeFigures(GRAINS);
            if (figures == NONE) {
                return false;
            }
            int waits = tape.takesWord("waits") ? tape.takeNumber(0, MOST_WAITS) : 0;
            if (waits == NONE) {
                return false;
            }
            int street = yardDraft.addStreet(x, y, waits);
            for (int grain = 1; grain <= GRAINS && street != NONE; grain++) {
                yardDraft.setMix(street, grain, tape.bytes[figures + grain - 1] - '0');
            }
            return true;
        }

        private boolean readsCart() {
            int hold = tape.takesWord("hold") ? tape.takeNumber(1, 9) : NONE;
            if (hold == NONE || !tape.takesWord("goes")) {
                return false;
            }
            int goes = tape.takeNumber(1, 99);
            return goes != NONE && yardDraft.addCart(hold, goes) != NONE;
        }

        private boolean readsSieve() {
            int mesh = tape.takeNumber(2, GRAINS);
            return mesh != NONE && yardDraft.addSieve(mesh) != NONE;
        }

        private boolean readsContract() {
            int low = tape.takeNumber(1, GRAINS);
            if (low == NONE || !tape.takesWord("to")) {
                return false;
            }
            int high = tape.takeNumber(low, GRAINS);
            if (high == NONE || !tape.takesWord("many")) {
                return false;
            }
            int many = tape.takeNumber(1, 99);
            if (many == NONE || !tape.takesWord("pays")) {
                return false;
            }
            int pays = tape.takeNumber(0, 9);
            return pays != NONE && yardDraft.addContract(low, high, many, pays) != NONE;
        }

        private boolean readsHeap() {
            int grain = tape.takeNumber(1, GRAINS);
            int many = grain != NONE ? tape.takeNumber(0, 999) : NONE;
            if (many == NONE) {
                return false;
            }
            yardDraft.heapRow[grain] = many;
            return true;
        }

        /** A number that is wrong may stand in the draft, as nothing of it stays then. */
        private boolean readsRest() {
            if (tape.takesWord("fire")) {
                yardDraft.fire = tape.takeNumber(0, 100);
                return yardDraft.fire != NONE;
            }
            if (tape.takesWord("rats")) {
                yardDraft.rats = tape.takeNumber(0, 100);
                return yardDraft.rats != NONE;
            }
            if (tape.takesWord("till")) {
                yardDraft.till = tape.takeNumber(0, 999);
                return yardDraft.till != NONE;
            }
            if (tape.takesWord("day")) {
                yardDraft.day = tape.takeNumber(0, 999);
                return yardDraft.day != NONE;
            }
            if (tape.takesWord("smoke")) {
                yardDraft.smoke = true;
                return true;
            }
            return false;
        }

        private boolean readsLawLine() {
            int kind = tape.takesWord("more") ? Law.MORE_LINE
                    : tape.takesWord("less") ? Law.LESS_LINE
                    : tape.takesWord("toll") ? Law.TOLL_LINE : NONE;
            int amount = kind != NONE ? tape.takeNumber(0, 99) : NONE;
            if (amount == NONE) {
                return false;
            }
            int begin = lawDraft.used;
            if (tape.takesWord("if") && !readsAny(0)) {
                return false;
            }
            lawDraft.addLine(kind, amount, begin);
            return true;
        }

        /** C of the document; deep is how many ( and not it stands within. */
        private boolean readsAny(int deep) {
            if (!readsAll(deep)) {
                return false;
            }
            for (int i = 0; i < TAPE_BYTES && tape.takesWord("or"); i++) {
                if (!readsAll(deep)) {
                    return false;
                }
                lawDraft.emit(Law.OR, 0);
            }
            return true;
        }

        private boolean readsAll(int deep) {
            if (!readsAtom(deep)) {
                return false;
            }
            for (int i = 0; i < TAPE_BYTES && tape.takesWord("and"); i++) {
                if (!readsAtom(deep)) {
                    return false;
                }
                lawDraft.emit(Law.AND, 0);
            }
            return true;
        }

        private boolean readsAtom(int deep) {
            if (tape.takesWord("not")) {
                boolean right = deep < DEEPEST ? readsAtom(deep + 1) : tape.refuse();
                lawDraft.emit(Law.NOT, 0);
                return right;
            }
            if (tape.takesSign('(')) {
                boolean right = deep < DEEPEST ? readsAny(deep + 1) : tape.refuse();
                return right && tape.takesSign(')');
            }
            int op = tape.takesWord("smoke") ? Law.SMOKE
                    : tape.takesWord("far") ? Law.FAR
                    : tape.takesWord("full") ? Law.FULL : NONE;
            if (op == NONE) {
                if (!readsSum()) {
                    return false;
                }
                op = tape.takesSign('<') ? Law.BELOW : tape.takesSign('>') ? Law.ABOVE : NONE;
                if (op == NONE || !readsSum()) {
                    return false;
                }
            }
            lawDraft.emit(op, 0);
            return true;
        }

        private boolean readsSum() {
            if (!readsPart()) {
                return false;
            }
            for (int i = 0; i < TAPE_BYTES && tape.takesSign('+'); i++) {
                if (!readsPart()) {
                    return false;
                }
                lawDraft.emit(Law.PLUS, 0);
            }
            return true;
        }

        private boolean readsPart() {
            int number = tape.takeNumber(0, 999);
            if (number != NONE) {
                lawDraft.emit(Law.NUMBER, number);
                return true;
            }
            int op = tape.takesWord("street") ? Law.STREET
                    : tape.takesWord("x") ? Law.X
                    : tape.takesWord("y") ? Law.Y
                    : tape.takesWord("waits") ? Law.WAITS
                    : tape.takesWord("loads") ? Law.LOADS
                    : tape.takesWord("till") ? Law.TILL
                    : tape.takesWord("day") ? Law.DAY : NONE;
            lawDraft.emit(op, 0);
            return op != NONE;
        }
    }

    /** Rounds by sets of STREETS; all their ways are measured once, as long as no STREET comes or goes. */
    private static final class Rounds {
        static final int SETS = 1 << STREETS;
        // Of a way that is not found yet: eight times across the town and back are far less.
        static final int UNFOUND = 9999;

        final int[] whole = new int[SETS];
        final int[] upTo = new int[SETS * STREETS];
        final int[] sets = new int[SETS];
        boolean isMeasured;

        void forget() {
            isMeasured = false;
        }

        int leastWay(State state, int set) {
            measure(state);
            return set >= 0 && set < SETS ? whole[set] : 0;
        }

        /** The set of STREETS with WAITS that a round of so far fetches the most by. */
        int bestSet(State state, int goes) {
            measure(state);
            int waiting = state.waitingSet();
            int best = 0;
            int bestWaits = 0;
            for (int set = 1; set <= waiting; set++) {
                if ((set & ~waiting) == 0 && whole[set] <= goes) {
                    int waits = state.waitsOfSet(set);
                    if (waits > bestWaits || waits == bestWaits && whole[set] < whole[best]) {
                        best = set;
                        bestWaits = waits;
                    }
                }
            }
            return best;
        }

        /** The fewest rounds of so far, or NONE. A part of a round is no longer, so no STREET need be in two. */
        int fewestSets(State state, int far) {
            measure(state);
            int waiting = state.waitingSet();
            sets[0] = 0;
            for (int set = 1; set <= waiting; set++) {
                sets[set] = NONE;
                for (int part = set; part > 0; part = part - 1 & set) {
                    int others = sets[set ^ part];
                    boolean can = whole[part] <= far && others != NONE;
                    if (can && (sets[set] == NONE || others + 1 < sets[set])) {
                        sets[set] = others + 1;
                    }
                }
            }
            return sets[waiting];
        }

        private void measure(State state) {
            if (isMeasured) {
                return;
            }
            for (int set = 1; set < 1 << state.streets; set++) {
                int least = UNFOUND;
                for (int last = 0; last < state.streets; last++) {
                    if ((set >> last & 1) != 0) {
                        int way = leastUpTo(state, set, last);
                        upTo[set * STREETS + last] = way;
                        least = Math.min(least, way + state.distance(last, NONE));
                    }
                }
                whole[set] = least;
            }
            isMeasured = true;
        }

        /** The least way from THE YARD by all of a set to the last one of it. */
        private int leastUpTo(State state, int set, int last) {
            int others = set & ~(1 << last);
            if (others == 0) {
                return state.distance(NONE, last);
            }
            int least = UNFOUND;
            for (int before = 0; before < state.streets; before++) {
                if ((others >> before & 1) != 0) {
                    least = Math.min(least, upTo[others * STREETS + before] + state.distance(before, last));
                }
            }
            return least;
        }
    }

    /** What CONTRACTS are worth together, and two by two. */
    private static final class Deals {
        final int[] with = new int[CONTRACTS];
        final int[] bestWith = new int[CONTRACTS];
        int bestWorth;
        int bestSet;
        int bestPays;

        void weigh(State state) {
            bestWorth = 0;
            bestSet = 0;
            for (int set = 1; set < 1 << state.contracts; set++) {
                int worth = worthOf(state, set);
                boolean fewer = Integer.bitCount(set) < Integer.bitCount(bestSet);
                boolean better = worth > bestWorth || worth == bestWorth && fewer;
                if (better && isEnough(state, set)) {
                    bestWorth = worth;
                    bestSet = set;
                }
            }
        }

        /** NONE if one of the set is not OPEN. */
        private static int worthOf(State state, int set) {
            int worth = 0;
            for (int contract = 0; contract < state.contracts; contract++) {
                if ((set >> contract & 1) != 0) {
                    if (!state.isOpen(contract)) {
                        return NONE;
                    }
                    worth += state.priceOf(contract);
                }
            }
            return worth;
        }

        /** By Hall's theorem: there is enough just if no run of GRAINS is wanted beyond what it has. */
        private static boolean isEnough(State state, int set) {
            for (int low = 1; low <= GRAINS; low++) {
                int has = 0;
                for (int high = low; high <= GRAINS; high++) {
                    has += state.heapRow[high];
                    if (wantedWithin(state, set, low, high) > has) {
                        return false;
                    }
                }
            }
            return true;
        }

        private static int wantedWithin(State state, int set, int low, int high) {
            int many = 0;
            for (int contract = 0; contract < state.contracts; contract++) {
                boolean within = state.lowOf(contract) >= low && state.highOf(contract) <= high;
                if (within && (set >> contract & 1) != 0) {
                    many += state.manyOf(contract);
                }
            }
            return many;
        }

        void putTwoByTwo(State state) {
            bestPays = NONE;
            for (int contract = 0; contract < CONTRACTS; contract++) {
                with[contract] = NONE;
                bestWith[contract] = NONE;
            }
            putFrom(state, 0, 0);
        }

        /** Ways come in the order in which the first of the best is told, so only a better one is kept. */
        private void putFrom(State state, int contract, int pays) {
            if (contract >= state.contracts) {
                if (pays > bestPays) {
                    bestPays = pays;
                    System.arraycopy(with, 0, bestWith, 0, CONTRACTS);
                }
                return;
            }
            putFrom(state, contract + 1, pays);
            if (with[contract] != NONE || !state.isOpen(contract)) {
                return;
            }
            for (int other = contract + 1; other < state.contracts; other++) {
                if (with[other] == NONE && isPair(state, contract, other)) {
                    with[contract] = other;
                    with[other] = contract;
                    putFrom(state, contract + 1, pays + state.paysOf(contract) + state.paysOf(other));
                    with[contract] = NONE;
                    with[other] = NONE;
                }
            }
        }

        private static boolean isPair(State state, int contract, int other) {
            boolean common = state.lowOf(contract) <= state.highOf(other)
                    && state.lowOf(other) <= state.highOf(contract);
            return common && state.isOpen(contract) && state.isOpen(other);
        }
    }

    /** Rows told of a GRAIN and a number, and what may be guessed by them. */
    private static final class Guesses {
        static final int MOST_OF_GRAIN = 9;
        static final int MOST_PASSES = 2;
        static final int ROWS = 20;
        static final int WIDEST_MESH = 7;
        // Of two meshes of 2 to 7, the first no less.
        static final int MESH_PAIRS = 21;

        final int[] grains = new int[ROWS];
        final int[] numbers = new int[ROWS];
        final int[] parts = new int[MOST_OF_GRAIN + 1];
        int rows;

        boolean reads(Tape tape, int most) {
            rows = 0;
            if (tape.size > 2 * ROWS || tape.size % 2 != 0) {
                return false;
            }
            for (int i = 0; i < tape.size / 2; i++) {
                int grain = tape.bytes[2 * i];
                int number = tape.bytes[2 * i + 1];
                if (grain < 1 || grain > GRAINS || number > most) {
                    return false;
                }
                grains[i] = grain;
                numbers[i] = number;
                rows++;
            }
            return true;
        }

        int streetsThatFit(State state) {
            int set = 0;
            for (int street = 0; street < state.streets; street++) {
                if (wrongRows(state, street) <= 1) {
                    set |= 1 << street;
                }
            }
            return set;
        }

        int likeliest(State state) {
            int best = NONE;
            int fewest = 2;
            for (int street = 0; street < state.streets; street++) {
                int wrong = wrongRows(state, street);
                if (wrong < fewest) {
                    best = street;
                    fewest = wrong;
                }
            }
            return best;
        }

        int grainToAsk(State state) {
            int fit = streetsThatFit(state);
            if (Integer.bitCount(fit) < 2) {
                return NONE;
            }
            int best = 1;
            int least = STREETS + 1;
            for (int grain = 1; grain <= GRAINS; grain++) {
                clearParts();
                for (int street = 0; street < state.streets; street++) {
                    if ((fit >> street & 1) != 0) {
                        parts[state.mixOf(street, grain)]++;
                    }
                }
                if (greatestPart() < least) {
                    best = grain;
                    least = greatestPart();
                }
            }
            return best;
        }

        private int wrongRows(State state, int street) {
            int wrong = 0;
            for (int i = 0; i < rows; i++) {
                if (state.mixOf(street, grains[i]) != numbers[i]) {
                    wrong++;
                }
            }
            return wrong;
        }

        int pairsThatFit() {
            int fit = 0;
            for (int first = 2; first <= WIDEST_MESH; first++) {
                for (int other = 2; other <= first; other++) {
                    fit += isPairFit(first, other) ? 1 : 0;
                }
            }
            return fit;
        }

        int firstPair() {
            for (int first = 2; first <= WIDEST_MESH; first++) {
                for (int other = 2; other <= first; other++) {
                    if (isPairFit(first, other)) {
                        return 10 * first + other;
                    }
                }
            }
            return NONE;
        }

        int grainToSift() {
            if (pairsThatFit() < 2) {
                return NONE;
            }
            int best = 1;
            int least = MESH_PAIRS + 1;
            for (int grain = 1; grain <= GRAINS; grain++) {
                partPairs(grain);
                if (greatestPart() < least) {
                    best = grain;
                    least = greatestPart();
                }
            }
            return best;
        }

        private void partPairs(int grain) {
            clearParts();
            for (int first = 2; first <= WIDEST_MESH; first++) {
                for (int other = 2; other <= first; other++) {
                    if (isPairFit(first, other)) {
                        parts[passes(first, other, grain)]++;
                    }
                }
            }
        }

        private boolean isPairFit(int first, int other) {
            for (int i = 0; i < rows; i++) {
                if (passes(first, other, grains[i]) != numbers[i]) {
                    return false;
                }
            }
            return true;
        }

        private static int passes(int first, int other, int grain) {
            if (grain >= first) {
                return 0;
            }
            return grain < other ? 2 : 1;
        }

        private void clearParts() {
            for (int i = 0; i < parts.length; i++) {
                parts[i] = 0;
            }
        }

        private int greatestPart() {
            int greatest = 0;
            for (int i = 0; i < parts.length; i++) {
                greatest = Math.max(greatest, parts[i]);
            }
            return greatest;
        }
    }
}
