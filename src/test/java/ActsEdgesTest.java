/** A DAY and promises 14 to 22: each sentence that names a boundary case has a test of its own. */
public final class ActsEdgesTest {
    private static final Class<IndexOutOfBoundsException> NO_SUCH_THING = IndexOutOfBoundsException.class;
    private static final Class<IllegalArgumentException> NO_SUCH_NUMBER = IllegalArgumentException.class;
    private static final Class<IllegalStateException> CANNOT_BE = IllegalStateException.class;
    private static final int[] FAR_OFF = {Integer.MIN_VALUE, -2, Integer.MAX_VALUE};
    // Three CARTS fetch 27 loads of 9 a DAY, 243 of a GRAIN.
    private static final String THREE_CARTS = "cart hold 9 goes 1;cart hold 9 goes 1;cart hold 9 goes 1";

    private ActsEdgesTest() {
    }

    public static void main(String[] args) {
        waitsAtMost();
        fillsAheadOfIt();
        waitsAboveNone();
        asFarAsItGoes();
        tollAtMostTill();
        fullestOfSeveral();
        holdAtMost();
        heapAtMost();
        belowFire();
        smokeElseNot();
        halfRoundedDown();
        belowRats();
        drawsAlways();
        manyTogether();
        fromHighDown();
        contractsByNumbers();
        openNoMore();
        dayAtMost();
        seedGoesRound();
        days();
        tip();
        tipAtMost();
        buy();
        take();
        drop();
        hire();
        lay();
        douse();
        fill();
        Check.end();
    }

    private static int waitsAfterADay(int waits, String law) {
        DustYard yard = Check.made("street at 1 1 mix 000000 waits " + waits, law);
        yard.days(1);
        return yard.street(0, 2);
    }

    // ---- a DAY

    private static void waitsAtMost() {
        Check.sentence("WAITS are FILLS more (99 at most)");
        Check.is("0 and 1", waitsAfterADay(0, null), 1);
        Check.is("just 99", waitsAfterADay(98, null), 99);
        Check.is("99 already", waitsAfterADay(99, null), 99);
        Check.is("0 and 99", waitsAfterADay(0, "more 98"), 99);
        Check.is("0 and 100", waitsAfterADay(0, "more 99"), 99);
        Check.is("FILLS of 0", waitsAfterADay(5, "less 99"), 5);
        Check.is("far more", waitsAfterADay(50, "more 99;more 99;more 99"), 99);
    }

    private static void fillsAheadOfIt() {
        Check.sentence("each STREET, by numbers, by all as it is ahead of (a)");
        Check.is("WAITS of 19 are not full ahead of it", waitsAfterADay(19, "more 5 if full"), 20);
        Check.is("WAITS of 20 are", waitsAfterADay(20, "more 5 if full"), 26);
        Check.is("DAY ahead of it", waitsAfterADay(0, "more 5 if day<1"), 6);
    }

    private static DustYard afterADay(String text, String law) {
        DustYard yard = Check.made(text, law);
        yard.days(1);
        return yard;
    }

    private static void waitsAboveNone() {
        Check.sentence("of STREETS with WAITS above 0 .. it goes to the one .., if there is one");
        DustYard none = afterADay("street at 0 0 mix 111111;cart hold 9 goes 9", "less 1");
        Check.is("none waits: no row", none.count(11), 0);
        Check.is("nothing in the HEAP", none.heap(1), 0);
        DustYard one = afterADay("street at 0 0 mix 111111 waits 1;cart hold 9 goes 9", "less 1");
        Check.is("one waits: a row", one.count(11), 1);
        Check.is("of a CART that fetched (0)", one.log(0, 2), 0);
        Check.is("one load", one.log(0, 4), 1);
        Check.is("none waits then", one.street(0, 2), 0);
        Check.is("no STREET at all", afterADay("cart hold 9 goes 9", null).count(11), 0);
        Check.is("no CART at all", afterADay("street at 0 0 mix 111111 waits 1", null).count(11), 0);
        DustYard empty = afterADay("street at 0 0 mix 000000 waits 3;cart hold 2 goes 9", "less 1");
        Check.is("loads of nothing are fetched, too", empty.log(0, 4), 2);
    }

    private static void asFarAsItGoes() {
        Check.sentence("to which twice the WAY from THE YARD is at most GOES");
        Check.is("just so far", afterADay("street at 2 3 mix 111111 waits 1;cart hold 9 goes 10", null).count(11), 1);
        Check.is("one less", afterADay("street at 2 3 mix 111111 waits 1;cart hold 9 goes 9", null).count(11), 0);
        DustYard nearer = afterADay("street at 2 3 mix 111111 waits 99;street at 2 2 mix 111111 waits 1;cart hold 1 goes 9", null);
        Check.is("to one that it reaches", nearer.log(0, 3), 1);
    }

    private static void tollAtMostTill() {
        Check.sentence("whose TOLL is at most TILL as it is then; TILL is TOLL less");
        DustYard just = afterADay("street at 0 0 mix 111111 waits 1;cart hold 9 goes 9;till 7", "toll 7");
        Check.is("just enough", just.count(11), 1);
        Check.is("nothing is left", just.count(8), 0);
        DustYard less = afterADay("street at 0 0 mix 111111 waits 1;cart hold 9 goes 9;till 6", "toll 7");
        Check.is("one less", less.count(11), 0);
        Check.is("nothing is paid", less.count(8), 6);
        Check.is("no TOLL, nothing in TILL", afterADay("street at 0 0 mix 111111 waits 1;cart hold 9 goes 9", null).count(11), 1);
        DustYard then = afterADay("street at 0 0 mix 111111 waits 50;cart hold 9 goes 9;cart hold 9 goes 9;till 13", "toll 7");
        Check.is("too little for a second one", then.count(11), 1);
        Check.is("TILL", then.count(8), 6);
        DustYard dear = afterADay("street at 0 0 mix 111111 waits 50;street at 0 0 mix 111111 waits 5;cart hold 1 goes 9;till 6",
                "toll 7 if waits>9");
        Check.is("to one that it can pay", dear.log(0, 3), 1);
        DustYard later = afterADay("street at 0 0 mix 900000 waits 1;cart hold 1 goes 1;contract 1 to 1 many 9 pays 1", "toll 1");
        Check.is("contracts pay behind the carts", later.count(11), 0);
    }

    private static void fullestOfSeveral() {
        Check.sentence("it goes to the one of the most WAITS (of several the least)");
        String two = "street at 1 0 mix 111111 waits 4;street at 0 1 mix 111111 waits 5;street at 0 0 mix 111111 waits 5;";
        DustYard yard = afterADay(two + "cart hold 1 goes 9;cart hold 9 goes 9;cart hold 9 goes 9", "less 1");
        Check.is("the first to the least of two", yard.log(2, 3), 1);
        Check.is("the second to the other one, as it is then", yard.log(1, 3), 2);
        Check.is("the third to the least of two", yard.log(0, 3), 0);
    }

    private static void holdAtMost() {
        Check.sentence("so many loads as WAIT, but HOLD at most, are no more there");
        DustYard fewer = afterADay("street at 0 0 mix 100002 waits 3;cart hold 4 goes 9", "less 1");
        Check.is("fewer than HOLD", fewer.log(0, 4), 3);
        Check.is("none is left", fewer.street(0, 2), 0);
        Check.is("GRAIN 6", fewer.heap(6), 6);
        DustYard just = afterADay("street at 0 0 mix 100002 waits 4;cart hold 4 goes 9", "less 1");
        Check.is("just HOLD", just.log(0, 4), 4);
        Check.is("none is left", just.street(0, 2), 0);
        DustYard more = afterADay("street at 0 0 mix 100002 waits 5;cart hold 4 goes 9", "less 1");
        Check.is("more than HOLD", more.log(0, 4), 4);
        Check.is("one is left", more.street(0, 2), 1);
        Check.is("GRAIN 1", more.heap(1), 4);
    }

    /** A HEAP of a GRAIN that 41 DAYS made so much, and 9 of it wait in each of 72 loads. */
    private static DustYard grown(int grain, int first) {
        String mix = "0".repeat(grain - 1) + "9" + "0".repeat(6 - grain);
        DustYard yard = Check.made("street at 0 0 mix " + mix + " waits 99;heap " + grain + " " + first + ";" + THREE_CARTS, "more 98");
        yard.days(41);
        return yard;
    }

    private static void heapAtMost() {
        Check.sentence("MIX of each of these is in the HEAP (9999 at most of each GRAIN)");
        for (int grain = 1; grain <= 6; grain++) {
            Check.is("just 9999", grown(grain, 36).heap(grain), 9999);
            Check.is("one less", grown(grain, 35).heap(grain), 9998);
            Check.is("one more", grown(grain, 37).heap(grain), 9999);
            DustYard day = grown(grain, 35);
            day.days(1);
            Check.is("9999 at most", day.heap(grain), 9999);
            Check.is("the loads are gone all the same", day.street(0, 2), 72);
        }
    }

    /** Of SEED 1 the first two draws modulo 100 are 38 and 58. */
    private static void belowFire() {
        Check.sentence("there is SMOKE, if DRAW modulo 100 is below FIRE");
        Check.is("38 is not below 38", afterADay("fire 38", null).count(10), 0);
        Check.is("38 is below 39", afterADay("fire 39", null).count(10), 1);
        Check.is("never", afterADay("fire 0", null).count(10), 0);
        DustYard always = Check.made("fire 100", null);
        DustYard never = Check.made("fire 0;smoke", null);
        for (int i = 0; i < 100; i++) {
            always.days(1);
            never.days(1);
            Check.is("always", always.count(10), 1);
            Check.is("never", never.count(10), 0);
        }
    }

    private static void smokeElseNot() {
        Check.sentence("there is SMOKE, if .., else not");
        Check.is("it goes", afterADay("fire 38;smoke", null).count(10), 0);
        Check.is("it stays", afterADay("fire 39;smoke", null).count(10), 1);
    }

    private static void halfRoundedDown() {
        Check.sentence("of GRAINS 5 and 6 half is left in the HEAP, rounded down");
        for (int many : new int[] {0, 1, 2, 3, 998, 999}) {
            DustYard yard = afterADay("fire 100;heap 1 9;heap 2 9;heap 3 9;heap 4 9;heap 5 " + many + ";heap 6 " + many, null);
            Check.is("GRAIN 5 of " + many, yard.heap(5), many / 2);
            Check.is("GRAIN 6 of " + many, yard.heap(6), many / 2);
            Check.is("GRAIN 4 is left alone", yard.heap(4), 9);
            Check.is("GRAIN 1 is left alone", yard.heap(1), 9);
        }
        DustYard full = grown(5, 36);
        Check.addYard(full, "fire 100");
        full.days(1);
        Check.is("of 9999", full.heap(5), 4999);
        DustYard none = afterADay("fire 38;heap 5 9;heap 6 9", null);
        Check.is("without a fire", none.heap(5) + none.heap(6), 18);
    }

    private static void belowRats() {
        Check.sentence("if DRAW modulo 100 is below RATS (the DRAW always), of GRAIN 4 half is left");
        Check.is("58 is not below 58", afterADay("rats 58;heap 4 9", null).heap(4), 9);
        Check.is("58 is below 59", afterADay("rats 59;heap 4 9", null).heap(4), 4);
        Check.is("of 1", afterADay("rats 100;heap 4 1", null).heap(4), 0);
        Check.is("of none", afterADay("rats 100", null).heap(4), 0);
        DustYard others = afterADay("rats 100;heap 3 9;heap 5 9", null);
        Check.is("no other GRAIN", others.heap(3) + others.heap(5), 18);
        Check.is("no SMOKE", others.count(10), 0);
        Check.is("fire or not, it is the second draw", afterADay("fire 39;rats 58;heap 4 9", null).heap(4), 9);
        Check.is("fire or not, it is the second draw", afterADay("fire 39;rats 59;heap 4 9", null).heap(4), 4);
    }

    private static int drawn(int seed) {
        return (int) (1103515245L * seed + 12345L);
    }

    private static void drawsAlways() {
        Check.sentence("(the DRAW always)");
        for (String text : new String[] {"", "fire 100", "rats 100", "fire 100;rats 100"}) {
            DustYard yard = afterADay(text, null);
            Check.is("two draws of: " + text, yard.seed(1), drawn(drawn(1)));
        }
    }

    private static void manyTogether() {
        Check.sentence("each CONTRACT .. that is OPEN, if the HEAP has MANY of its GRAINS together");
        Check.is("just so many", Check.made("contract 2 to 3 many 8 pays 1;heap 2 3;heap 3 5", null).days(1), 1);
        Check.is("one too few", Check.made("contract 2 to 3 many 9 pays 1;heap 2 3;heap 3 5;heap 1 9;heap 4 9", null).days(1), 0);
        Check.is("of none", Check.made("contract 1 to 6 many 1 pays 1", null).days(1), 0);
        Check.is("the most", Check.made("contract 6 to 6 many 99 pays 9;heap 6 99", null).days(1), 1);
        DustYard dropped = Check.made("contract 2 to 3 many 8 pays 1;heap 2 9", null);
        dropped.drop(0);
        Check.is("not OPEN", dropped.days(1), 0);
        Check.is("nothing is taken", dropped.heap(2), 9);
    }

    private static void fromHighDown() {
        Check.sentence("these are taken from the HEAP, from HIGH down, as many of each as there are till it is enough");
        int[][] due = {{1, 3, 4, 4}, {5, 3, 4, 0}, {6, 3, 3, 0}, {9, 3, 0, 0}, {10, 2, 0, 0}, {12, 0, 0, 0}};
        for (int[] row : due) {
            DustYard yard = afterADay("contract 2 to 4 many " + row[0] + " pays 1;heap 1 9;heap 2 3;heap 3 4;heap 4 5;heap 5 9", null);
            Check.is("GRAIN 1", yard.heap(1), 9);
            Check.is("GRAIN 2 of " + row[0], yard.heap(2), row[1]);
            Check.is("GRAIN 3 of " + row[0], yard.heap(3), row[2]);
            Check.is("GRAIN 4 of " + row[0], yard.heap(4), row[3]);
            Check.is("GRAIN 5", yard.heap(5), 9);
            Check.is("TILL is MANY times PAYS more", yard.count(8), row[0]);
        }
    }

    private static void contractsByNumbers() {
        Check.sentence("each CONTRACT, by numbers");
        DustYard yard = afterADay("contract 1 to 1 many 5 pays 1;contract 1 to 1 many 6 pays 9;contract 1 to 1 many 1 pays 0;heap 1 10", null);
        Check.is("the first, what is left is too few, then enough", yard.open(false), 0b010);
        Check.is("the first row", yard.log(1, 1), 0);
        Check.is("the second row", yard.log(0, 1), 2);
        Check.is("4 are left", yard.heap(1), 4);
        Check.is("TILL", yard.count(8), 5);
    }

    private static void openNoMore() {
        Check.sentence("it is OPEN no more");
        DustYard yard = Check.made("contract 1 to 1 many 5 pays 1;heap 1 99", null);
        Check.is("once", yard.days(60), 1);
        Check.is("not OPEN", yard.contract(0, 4), 0);
        Check.is("5 are taken", yard.heap(1), 94);
        Check.is("TILL", yard.count(8), 5);
    }

    private static void dayAtMost() {
        Check.sentence("DAY is 1 more (9999 at most)");
        DustYard yard = Check.made("day 999;street at 0 0 mix 100000;cart hold 1 goes 1", null);
        Check.is("0 at first", new DustYard().count(9), 0);
        for (int i = 0; i < 149; i++) {
            yard.days(60);
        }
        yard.days(59);
        Check.is("9998", yard.count(9), 9998);
        yard.days(1);
        Check.is("just 9999", yard.count(9), 9999);
        int heap = yard.heap(1);
        yard.days(1);
        Check.is("9999 at most", yard.count(9), 9999);
        yard.days(60);
        Check.is("9999 at most", yard.count(9), 9999);
        Check.is("of the log, too", yard.log(0, 0), 9999);
        Check.is("all else goes on", yard.heap(1) - heap, 61);
        Check.is("day of the law is 99", Check.addLaw(yard, "toll 3 if day>98"), 1);
        Check.is("TOLL", yard.street(0, 5), 3);
    }

    private static void seedGoesRound() {
        Check.sentence("SEED is 1103515245 times SEED and 12345, as an int that goes round; bits 16 to 30");
        for (int seed : new int[] {0, 1, -1, 2, 12345, Integer.MAX_VALUE, Integer.MIN_VALUE, 0x40000000, -123456789}) {
            int draw = (drawn(seed) >>> 16 & 0x7fff) % 100;
            int second = (drawn(drawn(seed)) >>> 16 & 0x7fff) % 100;
            DustYard not = Check.made("heap 4 9;fire " + draw + ";rats " + second, null);
            not.seed(seed);
            not.days(1);
            Check.is("a draw is not below itself: " + seed, not.count(10), 0);
            Check.is("nor the second one", not.heap(4), 9);
            DustYard is = Check.made("heap 4 9;fire " + (draw + 1) + ";rats " + (second + 1), null);
            is.seed(seed);
            is.days(1);
            Check.is("it is below one more: " + seed, is.count(10), 1);
            Check.is("so is the second one", is.heap(4), 4);
            Check.is("SEED then", is.seed(0), drawn(drawn(seed)));
        }
    }

    // ---- the ACTS

    private static void days() {
        Check.sentence("14: So many DAYS more (1 to 60). IllegalArgumentException: they are none");
        for (int n : new int[] {0, -1, 61, Integer.MIN_VALUE, Integer.MAX_VALUE}) {
            DustYard yard = Check.made("street at 0 0 mix 111111 waits 9;cart hold 1 goes 1", null);
            Check.refuses(yard, "days " + n, NO_SUCH_NUMBER, () -> yard.days(n));
        }
        DustYard one = new DustYard();
        Check.is("one", one.days(1), 0);
        Check.is("DAY", one.count(9), 1);
        Check.is("60", one.days(60), 0);
        Check.is("DAY", one.count(9), 61);
        Check.is("two acts", one.count(12), 2);
        DustYard filled = Check.made("street at 0 0 mix 100000 waits 9;cart hold 1 goes 1;contract 1 to 1 many 1 pays 1;"
                + "contract 1 to 1 many 2 pays 1;contract 1 to 1 many 99 pays 1", null);
        Check.sentence("14: how many CONTRACTS were FILLED on these");
        Check.is("on the first DAY and the third one", filled.days(3), 2);
        Check.is("none of those before", filled.days(3), 0);
    }

    private static void tip() {
        Check.sentence("15: IllegalStateException: none waits");
        DustYard yard = Check.made("street at 9 9 mix 123456 waits 1;street at 0 0 mix 111111", "toll 99");
        Check.refuses(yard, "none waits", CANNOT_BE, () -> yard.tip(1));
        Check.is("the last one", yard.tip(0), 0);
        Check.is("no TOLL, no row", yard.count(8) + yard.count(11), 0);
        Check.is("GRAIN 6", yard.heap(6), 6);
        Check.refuses(yard, "none is left", CANNOT_BE, () -> yard.tip(0));
        Check.is("of 99", Check.made("street at 9 9 mix 123456 waits 99", null).tip(0), 98);
        Check.sentence("15: IndexOutOfBoundsException: there is no such STREET");
        Check.refuses(yard, "2", NO_SUCH_THING, () -> yard.tip(2));
        Check.refuses(yard, "-1", NO_SUCH_THING, () -> yard.tip(-1));
        DustYard none = new DustYard();
        Check.refuses(none, "0 of none", NO_SUCH_THING, () -> none.tip(0));
        for (int far : FAR_OFF) {
            Check.refuses(none, "far off", NO_SUCH_THING, () -> none.tip(far));
        }
    }

    private static void tipAtMost() {
        Check.sentence("one load is in the HEAP, 9999 at most of each GRAIN");
        DustYard just = grown(3, 27);
        just.tip(0);
        Check.is("just 9999", just.heap(3), 9999);
        just.tip(0);
        Check.is("9999 at most", just.heap(3), 9999);
        DustYard more = grown(3, 28);
        Check.is("one less than 9 are wanting", more.heap(3), 9991);
        more.tip(0);
        Check.is("9999 at most", more.heap(3), 9999);
        Check.is("the load is gone all the same", more.street(0, 2), 71);
    }

    private static void buy() {
        Check.sentence("16: IllegalArgumentException: the MESH is none (2 to 6)");
        DustYard yard = Check.made("till 10", null);
        for (int mesh : new int[] {1, 7, 0, -1, Integer.MIN_VALUE, Integer.MAX_VALUE}) {
            Check.refuses(yard, "MESH " + mesh, NO_SUCH_NUMBER, () -> yard.buy(mesh));
        }
        Check.is("the finest", yard.buy(2), 0);
        Check.is("the coarsest", yard.buy(6), 1);
        Check.is("MESH", yard.mesh(1), 6);
        Check.sentence("16: IllegalStateException: .. TILL is below 5");
        Check.is("nothing is left", yard.count(8), 0);
        Check.refuses(yard, "of 0", CANNOT_BE, () -> yard.buy(2));
        DustYard four = Check.made("till 4", null);
        Check.refuses(four, "of 4", CANNOT_BE, () -> four.buy(2));
        Check.refuses(four, "told first", NO_SUCH_NUMBER, () -> four.buy(1));
        DustYard five = Check.made("till 5", null);
        Check.is("of 5", five.buy(2), 0);
        Check.is("TILL", five.count(8), 0);
        Check.sentence("16: IllegalStateException: there are 4");
        DustYard three = Check.made("till 99;sieve 2;sieve 2;sieve 2", null);
        Check.is("the fourth", three.buy(2), 3);
        Check.refuses(three, "a fifth", CANNOT_BE, () -> three.buy(2));
        Check.refuses(three, "told first", NO_SUCH_NUMBER, () -> three.buy(7));
    }

    private static void take() {
        Check.sentence("17: IllegalArgumentException: LOW, HIGH (no less), MANY or PAYS are none");
        int[][] none = {{0, 6, 1, 1}, {-1, 6, 1, 1}, {7, 7, 1, 1}, {1, 7, 1, 1}, {1, 0, 1, 1}, {2, 1, 1, 1}, {6, 5, 1, 1}, {1, 1, 0, 1},
            {1, 1, -1, 1}, {1, 1, 100, 1}, {1, 1, 1, -1}, {1, 1, 1, 10}, {Integer.MIN_VALUE, 1, 1, 1}, {1, Integer.MAX_VALUE, 1, 1},
            {1, 1, Integer.MIN_VALUE, 1}, {1, 1, Integer.MAX_VALUE, 1}, {1, 1, 1, Integer.MIN_VALUE}, {1, 1, 1, Integer.MAX_VALUE}};
        DustYard yard = new DustYard();
        for (int[] c : none) {
            Check.refuses(yard, "take " + c[0] + " " + c[1] + " " + c[2] + " " + c[3], NO_SUCH_NUMBER, () -> yard.take(c[0], c[1], c[2], c[3]));
        }
        int[][] some = {{1, 1, 1, 0}, {6, 6, 99, 9}, {1, 6, 1, 9}, {3, 3, 99, 0}};
        for (int i = 0; i < some.length; i++) {
            Check.is("its number", yard.take(some[i][0], some[i][1], some[i][2], some[i][3]), i);
            for (int what = 0; what < 4; what++) {
                Check.is("what " + what, yard.contract(i, what), some[i][what]);
            }
            Check.is("OPEN (at first)", yard.contract(i, 4), 1);
        }
        Check.sentence("17: IllegalStateException: there are 6");
        Check.is("the fifth", yard.take(1, 1, 1, 1), 4);
        Check.is("the sixth", yard.take(1, 1, 1, 1), 5);
        DustYard six = Check.made("contract 1 to 1 many 1 pays 1", null);
        for (int i = 1; i < 6; i++) {
            six.take(1, 1, 1, 1);
        }
        six.drop(0);
        Check.refuses(six, "a seventh, though one was dropped", CANNOT_BE, () -> six.take(1, 1, 1, 1));
        Check.refuses(six, "told first", NO_SUCH_NUMBER, () -> six.take(0, 1, 1, 1));
    }

    private static void drop() {
        Check.sentence("18: IllegalStateException: it is not OPEN");
        DustYard yard = Check.made("contract 1 to 1 many 1 pays 1;contract 1 to 1 many 2 pays 1;contract 1 to 1 many 9 pays 1;heap 1 3", null);
        yard.drop(2);
        Check.refusesAct(yard, "dropped", CANNOT_BE, () -> yard.drop(2));
        yard.fill(0);
        Check.refusesAct(yard, "FILLED by hand", CANNOT_BE, () -> yard.drop(0));
        yard.days(1);
        Check.refusesAct(yard, "FILLED on a DAY", CANNOT_BE, () -> yard.drop(1));
        Check.is("it stays with its number", yard.count(3), 3);
        Check.is("MANY of it", yard.contract(2, 2), 9);
        Check.sentence("18: IndexOutOfBoundsException: there is no such CONTRACT");
        Check.refusesAct(yard, "3", NO_SUCH_THING, () -> yard.drop(3));
        Check.refusesAct(yard, "-1", NO_SUCH_THING, () -> yard.drop(-1));
        DustYard none = new DustYard();
        Check.refusesAct(none, "0 of none", NO_SUCH_THING, () -> none.drop(0));
        for (int far : FAR_OFF) {
            Check.refusesAct(none, "far off", NO_SUCH_THING, () -> none.drop(far));
        }
    }

    private static void hire() {
        Check.sentence("19: IllegalArgumentException: HOLD (1 to 9) or GOES (1 to 99) are none");
        DustYard yard = new DustYard();
        int[][] none = {{0, 1}, {10, 1}, {-1, 1}, {1, 0}, {1, 100}, {1, -1}, {Integer.MIN_VALUE, 1}, {Integer.MAX_VALUE, 1},
            {1, Integer.MIN_VALUE}, {1, Integer.MAX_VALUE}};
        for (int[] c : none) {
            Check.refuses(yard, "hire " + c[0] + " " + c[1], NO_SUCH_NUMBER, () -> yard.hire(c[0], c[1]));
        }
        Check.is("the least", yard.hire(1, 1), 0);
        Check.is("the most", yard.hire(9, 99), 1);
        Check.is("HOLD and GOES", yard.cart(1, 0) * 100 + yard.cart(1, 1), 999);
        Check.sentence("19: IllegalStateException: there are 3");
        Check.is("the third", yard.hire(1, 99), 2);
        Check.refuses(yard, "a fourth", CANNOT_BE, () -> yard.hire(1, 1));
        Check.refuses(yard, "told first", NO_SUCH_NUMBER, () -> yard.hire(0, 1));
        Check.refuses(yard, "told first", NO_SUCH_NUMBER, () -> yard.hire(1, 100));
    }

    private static void lay() {
        Check.sentence("20: IllegalArgumentException: n is none (0 to 9)");
        DustYard yard = Check.made("street at 0 0 mix 123456;street at 0 0 mix 000000", null);
        for (int n : new int[] {-1, 10, Integer.MIN_VALUE, Integer.MAX_VALUE}) {
            Check.refuses(yard, "n " + n, NO_SUCH_NUMBER, () -> yard.lay(0, 1, n));
        }
        Check.is("0: it had 6", yard.lay(0, 6, 0), 6);
        Check.is("9: it had 0", yard.lay(0, 6, 9), 0);
        Check.is("it has", yard.mix(0, 6), 9);
        Check.is("the finest: it had 1", yard.lay(0, 1, 9), 1);
        Check.is("as it was: it had 9", yard.lay(0, 1, 9), 9);
        Check.is("an act each", yard.count(12), 4);
        Check.sentence("20: IndexOutOfBoundsException: there is no such STREET, GRAIN");
        DustYard one = Check.made("street at 0 0 mix 123456", null);
        int[][] none = {{1, 1}, {-1, 1}, {0, 0}, {0, 7}, {0, -1}, {Integer.MIN_VALUE, 1}, {Integer.MAX_VALUE, 1}, {0, Integer.MIN_VALUE},
            {0, Integer.MAX_VALUE}};
        for (int[] c : none) {
            Check.refuses(one, "lay " + c[0] + " " + c[1], NO_SUCH_THING, () -> one.lay(c[0], c[1], 5));
            Check.refuses(one, "told first", NO_SUCH_THING, () -> one.lay(c[0], c[1], 10));
        }
    }

    private static void douse() {
        Check.sentence("21: SMOKE is put out: whether there was any; (an ACT, too, if there is none)");
        DustYard yard = Check.made("smoke", null);
        Check.is("there was", yard.douse(), true);
        Check.is("there is none", yard.count(10), 0);
        Check.is("there was none", yard.douse(), false);
        Check.is("two acts", yard.count(12), 2);
        yard.undo();
        Check.is("none as ahead of the second", yard.count(10), 0);
        yard.undo();
        Check.is("some as ahead of the first", yard.count(10), 1);
    }

    private static void fill() {
        Check.sentence("22: IllegalStateException: it is not OPEN");
        DustYard yard = Check.made("contract 2 to 3 many 8 pays 9;contract 1 to 1 many 1 pays 0;contract 1 to 1 many 2 pays 0;heap 1 9;heap 2 3;"
                + "heap 3 5;till 999;day 7", null);
        Check.is("just so many: TILL then", yard.fill(0), 999 + 72);
        Check.is("nothing is left", yard.heap(2) + yard.heap(3), 0);
        Check.refuses(yard, "FILLED by hand", CANNOT_BE, () -> yard.fill(0));
        yard.drop(1);
        Check.refuses(yard, "dropped", CANNOT_BE, () -> yard.fill(1));
        yard.days(1);
        Check.refuses(yard, "FILLED on a DAY", CANNOT_BE, () -> yard.fill(2));
        Check.sentence("22: IllegalStateException: .. the HEAP has too few");
        DustYard few = Check.made("contract 2 to 3 many 9 pays 9;heap 1 99;heap 2 3;heap 3 5;heap 4 99", null);
        Check.refuses(few, "one too few", CANNOT_BE, () -> few.fill(0));
        Check.sentence("22: IndexOutOfBoundsException: there is no such CONTRACT");
        Check.refuses(few, "1", NO_SUCH_THING, () -> few.fill(1));
        Check.refuses(few, "-1", NO_SUCH_THING, () -> few.fill(-1));
        for (int far : FAR_OFF) {
            Check.refuses(few, "far off", NO_SUCH_THING, () -> few.fill(far));
        }
        Check.sentence("THE LOG: .. CONTRACTS FILLED .. by hand (2)");
        Check.is("a row", yard.log(1, 2), 2);
        Check.is("its DAY", yard.log(1, 0), 7);
        Check.is("no STREET", yard.log(1, 3), -1);
        Check.is("MANY", yard.log(1, 4), 8);
        Check.is("on a DAY (1)", yard.log(0, 2), 1);
    }
}
