import java.util.NoSuchElementException;

/** Promises 7 to 13, 44 to 47 and 57: each sentence that names a boundary case has a test of its own. */
public final class ThingsEdgesTest {
    private static final Class<IndexOutOfBoundsException> NO_SUCH_THING = IndexOutOfBoundsException.class;
    private static final Class<NoSuchElementException> NO_SUCH_WHAT = NoSuchElementException.class;
    private static final int[] FAR_OFF = {Integer.MIN_VALUE, -2, Integer.MAX_VALUE};

    private ThingsEdgesTest() {
    }

    public static void main(String[] args) {
        noSuchStreet();
        anotherWhatOfAStreet();
        wayAndPart();
        mixes();
        noSuchCart();
        anotherWhatOfACart();
        reached();
        best();
        which();
        bestOfAnotherText();
        meshes();
        contracts();
        heaps();
        ways();
        fullest();
        farthest();
        richest();
        anotherMost();
        openOnes();
        canBeFilled();
        twins();
        wanted();
        counts();
        Check.end();
    }

    private static DustYard yardOf(int streets) {
        StringBuilder text = new StringBuilder("fire 0");
        for (int i = 0; i < streets; i++) {
            text.append(";street at ").append(i).append(" 0 mix 00000").append(i);
        }
        return Check.made(text.toString(), null);
    }

    // ---- STREETS

    private static void noSuchStreet() {
        Check.sentence("7: IndexOutOfBoundsException: there is no such STREET");
        for (int streets : new int[] {0, 1, 7}) {
            DustYard yard = yardOf(streets);
            Check.refuses(yard, "one too far", NO_SUCH_THING, () -> yard.street(streets, 0));
            Check.refuses(yard, "THE YARD is none", NO_SUCH_THING, () -> yard.street(-1, 0));
            Check.refuses(yard, "told first", NO_SUCH_THING, () -> yard.street(streets, 8));
            Check.refuses(yard, "told first", NO_SUCH_THING, () -> yard.street(-1, -1));
            for (int far : FAR_OFF) {
                Check.refuses(yard, "far off", NO_SUCH_THING, () -> yard.street(far, 0));
            }
        }
        Check.is("the last of 7", yardOf(7).street(6, 0), 6);
        Check.is("the first of 7", yardOf(7).street(0, 0), 0);
    }

    private static void anotherWhatOfAStreet() {
        Check.sentence("7: NoSuchElementException: another what");
        DustYard yard = yardOf(1);
        Check.is("what 0", yard.street(0, 0), 0);
        Check.is("what 7", yard.street(0, 7), 0);
        Check.refuses(yard, "8", NO_SUCH_WHAT, () -> yard.street(0, 8));
        Check.refuses(yard, "-1", NO_SUCH_WHAT, () -> yard.street(0, -1));
        for (int far : FAR_OFF) {
            Check.refuses(yard, "far off", NO_SUCH_WHAT, () -> yard.street(0, far));
        }
    }

    private static void wayAndPart() {
        Check.sentence("WAY from THE YARD, which is at X 0, Y 0");
        Check.is("at THE YARD", Check.made("street at 0 0 mix 000000", null).street(0, 6), 0);
        Check.is("the farthest", Check.made("street at 9 9 mix 000000", null).street(0, 6), 18);
        Check.sentence("PART of a STREET of all WAITS, in hundredths, rounded down (0 without)");
        DustYard none = yardOf(2);
        Check.is("without", none.street(1, 7), 0);
        DustYard one = Check.made("street at 1 1 mix 000000 waits 1;street at 1 1 mix 000000", null);
        Check.is("all of it", one.street(0, 7), 100);
        Check.is("nothing of it", one.street(1, 7), 0);
        DustYard three = Check.made("street at 1 1 mix 000000 waits 1;street at 1 1 mix 000000 waits 2", null);
        Check.is("a third", three.street(0, 7), 33);
        Check.is("two thirds, rounded down", three.street(1, 7), 66);
        DustYard few = Check.made("street at 1 1 mix 000000 waits 1;street at 1 1 mix 000000 waits 99;street at 1 1 mix 000000 waits 1", null);
        Check.is("below a hundredth", few.street(0, 7), 0);
        Check.is("below 99 hundredths", few.street(1, 7), 98);
    }

    private static void mixes() {
        Check.sentence("8: IndexOutOfBoundsException: there is no such STREET, GRAIN");
        DustYard yard = yardOf(7);
        Check.is("GRAIN 1", yard.mix(6, 1), 0);
        Check.is("GRAIN 6", yard.mix(6, 6), 6);
        Check.refuses(yard, "STREET 7", NO_SUCH_THING, () -> yard.mix(7, 1));
        Check.refuses(yard, "STREET -1", NO_SUCH_THING, () -> yard.mix(-1, 6));
        Check.refuses(yard, "GRAIN 0", NO_SUCH_THING, () -> yard.mix(6, 0));
        Check.refuses(yard, "GRAIN 7", NO_SUCH_THING, () -> yard.mix(0, 7));
        Check.refuses(yard, "GRAIN -1", NO_SUCH_THING, () -> yard.mix(0, -1));
        DustYard other = yardOf(1);
        for (int far : FAR_OFF) {
            Check.refuses(other, "STREET far off", NO_SUCH_THING, () -> other.mix(far, 1));
            Check.refuses(other, "GRAIN far off", NO_SUCH_THING, () -> other.mix(0, far));
        }
    }

    // ---- CARTS

    private static void noSuchCart() {
        Check.sentence("9: IndexOutOfBoundsException: there is no such CART");
        DustYard none = new DustYard();
        Check.refuses(none, "0 of none", NO_SUCH_THING, () -> none.cart(0, 0));
        DustYard yard = Check.made("cart hold 1 goes 2;cart hold 3 goes 4;cart hold 5 goes 6", null);
        Check.is("the first", yard.cart(0, 0), 1);
        Check.is("the last", yard.cart(2, 1), 6);
        Check.refuses(yard, "3", NO_SUCH_THING, () -> yard.cart(3, 0));
        Check.refuses(yard, "-1", NO_SUCH_THING, () -> yard.cart(-1, 0));
        Check.refuses(yard, "told first", NO_SUCH_THING, () -> yard.cart(3, 5));
        Check.refuses(yard, "told first", NO_SUCH_THING, () -> yard.cart(-1, -1));
        for (int far : FAR_OFF) {
            Check.refuses(yard, "far off", NO_SUCH_THING, () -> yard.cart(far, 0));
        }
    }

    private static void anotherWhatOfACart() {
        Check.sentence("9: NoSuchElementException: another what");
        DustYard yard = Check.made("cart hold 1 goes 2", null);
        Check.is("what 0", yard.cart(0, 0), 1);
        Check.is("what 4", yard.cart(0, 4), 0);
        Check.refuses(yard, "5", NO_SUCH_WHAT, () -> yard.cart(0, 5));
        Check.refuses(yard, "-1", NO_SUCH_WHAT, () -> yard.cart(0, -1));
        for (int far : FAR_OFF) {
            Check.refuses(yard, "far off", NO_SUCH_WHAT, () -> yard.cart(0, far));
        }
    }

    private static void reached() {
        Check.sentence("REACHED by a CART: STREETS to which twice the WAY is at most GOES, as bits");
        String streets = "street at 0 0 mix 000000;street at 3 0 mix 000000;street at 2 2 mix 000000 waits 9;street at 9 9 mix 000000;";
        Check.is("none", Check.made("cart hold 1 goes 9", null).cart(0, 2), 0);
        Check.is("only at THE YARD", Check.made(streets + "cart hold 1 goes 1", null).cart(0, 2), 0b0001);
        Check.is("5 is too few for 3", Check.made(streets + "cart hold 1 goes 5", null).cart(0, 2), 0b0001);
        Check.is("6 is just enough for 3", Check.made(streets + "cart hold 1 goes 6", null).cart(0, 2), 0b0011);
        Check.is("7 is too few for 4", Check.made(streets + "cart hold 1 goes 7", null).cart(0, 2), 0b0011);
        Check.is("35 is too few for 18", Check.made(streets + "cart hold 1 goes 35", null).cart(0, 2), 0b0111);
        Check.is("36 is just enough for 18", Check.made(streets + "cart hold 1 goes 36", null).cart(0, 2), 0b1111);
        DustYard all = yardOf(7);
        all.hire(1, 99);
        Check.is("all 7", all.cart(0, 2), 0b1111111);
    }

    private static void best() {
        Check.sentence("BEST of a CART: STREETS with WAITS above 0 .. a round .. of at most GOES .. the most WAITS (HOLD is no matter) (0 if there are none such)");
        DustYard none = Check.made("cart hold 1 goes 99", null);
        Check.is("no STREET", none.cart(0, 3), 0);
        DustYard idle = Check.made("street at 0 0 mix 111111;cart hold 1 goes 99", null);
        Check.is("no WAITS", idle.cart(0, 3), 0);
        Check.is("no WAITS, which", idle.cart(0, 4), 0);
        DustYard one = Check.made("street at 3 0 mix 000000 waits 1;cart hold 1 goes 6;cart hold 1 goes 5", null);
        Check.is("just as far as it goes", one.cart(0, 3), 1);
        Check.is("one less", one.cart(1, 3), 0);
        Check.is("one less, which", one.cart(1, 4), 0);
        DustYard hold = Check.made("street at 3 0 mix 000000 waits 99;street at 2 0 mix 000000 waits 99;cart hold 1 goes 6", null);
        Check.is("HOLD is no matter", hold.cart(0, 3), 198);
        DustYard full = Check.made("street at 0 0 mix 000000 waits 99;street at 0 0 mix 000000 waits 99;street at 0 0 mix 000000 waits 99;"
                + "street at 0 0 mix 000000 waits 99;street at 0 0 mix 000000 waits 99;street at 0 0 mix 000000 waits 99;"
                + "street at 0 0 mix 000000 waits 99;cart hold 1 goes 1", null);
        Check.is("all 7", full.cart(0, 3), 693);
        Check.is("all 7, which", full.cart(0, 4), 127);
    }

    private static void which() {
        Check.sentence("WHICH: these (of the least way, of several the least as bits; 0)");
        DustYard ways = Check.made("street at 4 0 mix 000000 waits 5;street at 3 0 mix 000000 waits 2;street at 0 2 mix 000000 waits 3;"
                + "cart hold 1 goes 11", null);
        // 0 and 1 wait for 7 by a way of 8; 1 and 2 for 5 by one of 10; all by one of 12.
        Check.is("the most", ways.cart(0, 4), 0b011);
        ways.hire(1, 12);
        Check.is("by one more", ways.cart(1, 4), 0b111);
        DustYard like = Check.made("street at 4 0 mix 000000 waits 5;street at 3 0 mix 000000 waits 5;street at 0 3 mix 000000 waits 5;"
                + "cart hold 1 goes 7", null);
        Check.is("of the least as bits of two as near", like.cart(0, 4), 0b010);
        DustYard sum = Check.made("street at 0 3 mix 000000 waits 6;street at 2 0 mix 000000 waits 3;street at 1 0 mix 000000 waits 3;"
                + "cart hold 1 goes 6", null);
        Check.is("6 alone by 6, or 3 and 3 by 4", sum.cart(0, 4), 0b110);
        DustYard bits = Check.made("street at 0 3 mix 000000 waits 6;street at 3 0 mix 000000 waits 3;street at 3 0 mix 000000 waits 3;"
                + "cart hold 1 goes 6", null);
        Check.is("6 alone by 6, or 3 and 3 by 6: not the fewest, the least", bits.cart(0, 4), 0b001);
    }

    private static void bestOfAnotherText() {
        Check.sentence("BEST, WHICH, TRIPS and ROUND of the STREETS that there are then");
        DustYard yard = Check.made("street at 9 0 mix 000000 waits 4;cart hold 1 goes 18", null);
        Check.is("one", yard.cart(0, 4), 1);
        yard.image();
        Check.addYard(yard, "street at 0 2 mix 000000 waits 4");
        Check.is("another text", yard.cart(0, 4), 2);
        Check.is("two rounds", yard.trips(18), 2);
        yard.back();
        Check.is("gone back", yard.cart(0, 4), 1);
        Check.addYard(yard, "street at 5 0 mix 000000 waits 4");
        Check.is("another one in its place", yard.cart(0, 4), 3);
        Check.is("one round", yard.trips(18), 1);
    }

    // ---- SIEVES, CONTRACTS, the HEAP, ways

    private static void meshes() {
        Check.sentence("10: IndexOutOfBoundsException: there is no such SIEVE");
        DustYard none = new DustYard();
        Check.refuses(none, "0 of none", NO_SUCH_THING, () -> none.mesh(0));
        DustYard yard = Check.made("sieve 2;sieve 3;sieve 4;sieve 6", null);
        Check.is("the first", yard.mesh(0), 2);
        Check.is("the last", yard.mesh(3), 6);
        Check.refuses(yard, "4", NO_SUCH_THING, () -> yard.mesh(4));
        Check.refuses(yard, "-1", NO_SUCH_THING, () -> yard.mesh(-1));
        for (int far : FAR_OFF) {
            Check.refuses(yard, "far off", NO_SUCH_THING, () -> yard.mesh(far));
        }
    }

    private static void contracts() {
        Check.sentence("11: IndexOutOfBoundsException: there is no such CONTRACT");
        DustYard none = new DustYard();
        Check.refuses(none, "0 of none", NO_SUCH_THING, () -> none.contract(0, 0));
        DustYard yard = Check.made("contract 1 to 2 many 3 pays 4;contract 1 to 1 many 1 pays 1;contract 1 to 1 many 1 pays 1;"
                + "contract 1 to 1 many 1 pays 1;contract 1 to 1 many 1 pays 1;contract 5 to 6 many 99 pays 9", null);
        Check.is("the first", yard.contract(0, 0), 1);
        Check.is("the last", yard.contract(5, 3), 9);
        Check.refuses(yard, "6", NO_SUCH_THING, () -> yard.contract(6, 0));
        Check.refuses(yard, "-1", NO_SUCH_THING, () -> yard.contract(-1, 0));
        Check.refuses(yard, "told first", NO_SUCH_THING, () -> yard.contract(6, 5));
        Check.refuses(yard, "told first", NO_SUCH_THING, () -> yard.contract(-1, -1));
        Check.sentence("11: NoSuchElementException: another what");
        DustYard one = Check.made("contract 1 to 2 many 3 pays 4", null);
        Check.is("what 4", one.contract(0, 4), 1);
        Check.refuses(one, "5", NO_SUCH_WHAT, () -> one.contract(0, 5));
        Check.refuses(one, "-1", NO_SUCH_WHAT, () -> one.contract(0, -1));
        for (int far : FAR_OFF) {
            Check.refuses(one, "far off", NO_SUCH_WHAT, () -> one.contract(0, far));
            Check.refuses(one, "far off", NO_SUCH_THING, () -> one.contract(far, 0));
        }
        one.drop(0);
        Check.is("a dropped one stays with its number", one.contract(0, 2), 3);
        Check.is("1 if OPEN, else 0", one.contract(0, 4), 0);
    }

    private static void heaps() {
        Check.sentence("12: IndexOutOfBoundsException: there is no such GRAIN");
        DustYard yard = Check.made("heap 1 5;heap 6 7", null);
        Check.is("the finest", yard.heap(1), 5);
        Check.is("the coarsest", yard.heap(6), 7);
        Check.refuses(yard, "0", NO_SUCH_THING, () -> yard.heap(0));
        Check.refuses(yard, "7", NO_SUCH_THING, () -> yard.heap(7));
        Check.refuses(yard, "-1", NO_SUCH_THING, () -> yard.heap(-1));
        for (int far : FAR_OFF) {
            Check.refuses(yard, "far off", NO_SUCH_THING, () -> yard.heap(far));
        }
    }

    private static void ways() {
        Check.sentence("13: WAY of two STREETS (NONE: THE YARD)");
        DustYard yard = Check.made("street at 9 9 mix 000000;street at 0 0 mix 000000;street at 9 0 mix 000000;street at 0 9 mix 000000", null);
        Check.is("of THE YARD and itself", yard.way(-1, -1), 0);
        Check.is("from THE YARD", yard.way(-1, 0), 18);
        Check.is("to THE YARD", yard.way(0, -1), 18);
        Check.is("of one and itself", yard.way(0, 0), 0);
        Check.is("across", yard.way(2, 3), 18);
        Check.is("and back", yard.way(3, 2), 18);
        DustYard empty = new DustYard();
        Check.is("of THE YARD alone", empty.way(-1, -1), 0);
        Check.sentence("13: IndexOutOfBoundsException: there is no such STREET");
        Check.refuses(empty, "0 of none", NO_SUCH_THING, () -> empty.way(0, -1));
        Check.refuses(empty, "0 of none", NO_SUCH_THING, () -> empty.way(-1, 0));
        Check.refuses(yard, "4", NO_SUCH_THING, () -> yard.way(4, 0));
        Check.refuses(yard, "4 behind", NO_SUCH_THING, () -> yard.way(0, 4));
        Check.refuses(yard, "-2", NO_SUCH_THING, () -> yard.way(-2, 0));
        Check.refuses(yard, "-2 behind", NO_SUCH_THING, () -> yard.way(0, -2));
        Check.refuses(yard, "4 twice", NO_SUCH_THING, () -> yard.way(4, 4));
        for (int far : FAR_OFF) {
            Check.refuses(empty, "far off", NO_SUCH_THING, () -> empty.way(far, -1));
            Check.refuses(empty, "far off behind", NO_SUCH_THING, () -> empty.way(-1, far));
        }
    }

    // ---- the most

    private static void fullest() {
        Check.sentence("FULLEST: the STREET of the most WAITS (of several the least; none, each)");
        Check.is("none", new DustYard().most(0), -1);
        Check.is("without WAITS the least", yardOf(7).most(0), 0);
        DustYard yard = Check.made("street at 1 1 mix 000000;street at 1 1 mix 000000 waits 8;street at 1 1 mix 000000 waits 9;"
                + "street at 1 1 mix 000000 waits 9", null);
        Check.is("of two", yard.most(0), 2);
        yard.tip(2);
        Check.is("the other one", yard.most(0), 3);
        yard.tip(3);
        Check.is("of three", yard.most(0), 1);
    }

    private static void farthest() {
        Check.sentence("FARTHEST: of the greatest WAY from THE YARD (of several the least; none, each)");
        Check.is("none", new DustYard().most(1), -1);
        Check.is("at THE YARD", Check.made("street at 0 0 mix 000000;street at 0 0 mix 000000", null).most(1), 0);
        Check.is("of two", Check.made("street at 1 0 mix 000000 waits 9;street at 9 8 mix 000000;street at 8 9 mix 000000", null).most(1), 1);
        Check.is("the last", yardOf(7).most(1), 6);
    }

    private static void richest() {
        Check.sentence("RICHEST: the CONTRACT, OPEN or not, of the most MANY times PAYS (of several the least; none, each)");
        Check.is("none", new DustYard().most(2), -1);
        DustYard nothing = Check.made("contract 1 to 1 many 9 pays 0;contract 1 to 1 many 99 pays 0", null);
        Check.is("for nothing, the least", nothing.most(2), 0);
        DustYard yard = Check.made("contract 1 to 1 many 99 pays 0;contract 1 to 1 many 2 pays 6;contract 1 to 1 many 4 pays 3;"
                + "contract 1 to 1 many 1 pays 9", null);
        Check.is("of two", yard.most(2), 1);
        yard.drop(1);
        Check.is("OPEN or not", yard.most(2), 1);
        yard.drop(0);
        yard.drop(2);
        yard.drop(3);
        Check.is("none is OPEN", yard.most(2), 1);
    }

    private static void anotherMost() {
        Check.sentence("44: NoSuchElementException: another what");
        for (DustYard yard : new DustYard[] {new DustYard(), yardOf(1)}) {
            Check.refuses(yard, "3", NO_SUCH_WHAT, () -> yard.most(3));
            Check.refuses(yard, "-1", NO_SUCH_WHAT, () -> yard.most(-1));
            for (int far : FAR_OFF) {
                Check.refuses(yard, "far off", NO_SUCH_WHAT, () -> yard.most(far));
            }
        }
    }

    // ---- sets and counts

    private static void openOnes() {
        Check.sentence("45: OPEN ones (can false) .. as bits");
        Check.is("of none", new DustYard().open(false), 0);
        DustYard yard = Check.made("contract 1 to 1 many 1 pays 0;contract 1 to 1 many 1 pays 0;contract 1 to 1 many 1 pays 0;"
                + "contract 1 to 1 many 1 pays 0;contract 1 to 1 many 1 pays 0;contract 1 to 1 many 1 pays 0;heap 1 1", null);
        Check.is("all 6", yard.open(false), 0b111111);
        yard.drop(5);
        Check.is("a dropped one", yard.open(false), 0b011111);
        yard.fill(0);
        Check.is("a FILLED one", yard.open(false), 0b011110);
    }

    private static void canBeFilled() {
        Check.sentence("CAN: OPEN ones that could be FILLED now, each alone, as bits");
        Check.is("of none", new DustYard().open(true), 0);
        DustYard yard = Check.made("contract 2 to 3 many 8 pays 0;contract 2 to 3 many 9 pays 0;contract 1 to 2 many 4 pays 0;"
                + "contract 3 to 3 many 6 pays 0;contract 3 to 6 many 5 pays 0;contract 4 to 6 many 1 pays 0;heap 2 3;heap 3 5", null);
        Check.is("just enough, one too few, each alone", yard.open(true), 0b010001);
        yard.drop(0);
        Check.is("OPEN ones", yard.open(true), 0b010000);
        yard.fill(4);
        Check.is("none", yard.open(true), 0);
    }

    private static void twins() {
        Check.sentence("TWINS: pairs of STREETS of like MIX: how many");
        Check.is("of none", new DustYard().twins(), 0);
        Check.is("of one", yardOf(1).twins(), 0);
        Check.is("none alike", yardOf(7).twins(), 0);
        DustYard same = yardOf(7);
        for (int street = 0; street < 7; street++) {
            same.lay(street, 6, 9);
        }
        Check.is("all 7 alike", same.twins(), 21);
        same.lay(6, 1, 1);
        Check.is("all but for the finest of one", same.twins(), 15);
        same.lay(0, 1, 1);
        Check.is("and another one", same.twins(), 11);
        Check.is("loads of nothing are alike, too", Check.made("street at 1 1 mix 000000;street at 2 2 mix 000000 waits 5", null).twins(), 1);
    }

    private static void wanted() {
        Check.sentence("WANTED of a GRAIN: OPEN CONTRACTS of which it is, as bits");
        Check.is("of none", new DustYard().wanted(1), 0);
        DustYard yard = Check.made("contract 1 to 1 many 1 pays 0;contract 2 to 5 many 1 pays 0;contract 6 to 6 many 1 pays 0;"
                + "contract 1 to 6 many 1 pays 0", null);
        int[] due = {0, 0b1001, 0b1010, 0b1010, 0b1010, 0b1010, 0b1100};
        for (int grain = 1; grain <= 6; grain++) {
            Check.is("GRAIN " + grain, yard.wanted(grain), due[grain]);
        }
        yard.drop(3);
        Check.is("OPEN ones", yard.wanted(6), 0b0100);
        Check.sentence("47: IndexOutOfBoundsException: there is no such GRAIN");
        Check.refuses(yard, "0", NO_SUCH_THING, () -> yard.wanted(0));
        Check.refuses(yard, "7", NO_SUCH_THING, () -> yard.wanted(7));
        Check.refuses(yard, "-1", NO_SUCH_THING, () -> yard.wanted(-1));
        for (int far : FAR_OFF) {
            Check.refuses(yard, "far off", NO_SUCH_THING, () -> yard.wanted(far));
        }
    }

    private static void counts() {
        Check.sentence("57: 5 LINES of THE LAW (NONE without one)");
        DustYard yard = new DustYard();
        Check.is("without one", yard.count(5), -1);
        Check.addLaw(yard, "");
        Check.is("an empty one", yard.count(5), 0);
        Check.sentence("57: 10 1 if there is SMOKE");
        Check.is("none", yard.count(10), 0);
        Check.addYard(yard, "smoke");
        Check.is("SMOKE", yard.count(10), 1);
        Check.sentence("57: 12 acts that can be UNDONE");
        for (int act = 0; act <= 14; act++) {
            Check.is("acts", yard.count(12), Math.min(12, act));
            yard.douse();
        }
        Check.sentence("57: NONE for another what");
        for (int what : new int[] {-1, 13, -2, Integer.MIN_VALUE, Integer.MAX_VALUE}) {
            Check.is("count(" + what + ")", yard.count(what), -1);
        }
    }
}
