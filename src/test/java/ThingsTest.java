import java.util.NoSuchElementException;

/** Promises 7 to 13, 44 to 47 and 57: what there is, the most of it, and sets of it. */
public final class ThingsTest {
    private ThingsTest() {
    }

    public static void main(String[] args) {
        streets();
        carts();
        sievesContractsAndHeap();
        ways();
        most();
        openOnes();
        twins();
        wanted();
        Check.end();
    }

    private static void streets() {
        DustYard yard = Check.made("street at 3 4 mix 123456 waits 50;street at 9 8 mix 900000 waits 25;street at 0 0 mix 000000",
                "more 3 if waits>30;less 1 if far;toll 7 if full;toll 2");
        int[][] due = {{3, 4, 50, 21, 4, 9, 7, 66}, {9, 8, 25, 9, 0, 9, 17, 33}, {0, 0, 0, 0, 1, 2, 0, 0}};
        for (int street = 0; street < 3; street++) {
            for (int what = 0; what < 8; what++) {
                Check.is("street(" + street + ", " + what + ")", yard.street(street, what), due[street][what]);
            }
        }
        DustYard empty = Check.made("street at 3 4 mix 123456", null);
        Check.is("PART without WAITS", empty.street(0, 7), 0);
        Check.is("PART of one", Check.made("street at 0 0 mix 000000 waits 7", null).street(0, 7), 100);
        for (int street : new int[] {-1, 3, Integer.MAX_VALUE, Integer.MIN_VALUE}) {
            Check.refuses(yard, "street " + street, IndexOutOfBoundsException.class, () -> yard.street(street, 0));
            Check.refuses(yard, "street " + street + " comes first", IndexOutOfBoundsException.class, () -> yard.street(street, 9));
            Check.refuses(yard, "mix of street " + street, IndexOutOfBoundsException.class, () -> yard.mix(street, 1));
        }
        Check.refuses(yard, "what 8", NoSuchElementException.class, () -> yard.street(0, 8));
        Check.refuses(yard, "what -1", NoSuchElementException.class, () -> yard.street(0, -1));
        for (int grain = 1; grain <= 6; grain++) {
            Check.is("mix " + grain, yard.mix(0, grain), grain);
        }
        Check.refuses(yard, "grain 0", IndexOutOfBoundsException.class, () -> yard.mix(0, 0));
        Check.refuses(yard, "grain 7", IndexOutOfBoundsException.class, () -> yard.mix(0, 7));
    }

    private static void carts() {
        DustYard yard = Check.made("street at 5 0 mix 000000 waits 9;street at 5 1 mix 000000 waits 8;street at 0 5 mix 000000 waits 17;"
                + "street at 9 9 mix 000000 waits 99;street at 1 0 mix 000000;cart hold 3 goes 11;cart hold 9 goes 12;"
                + "cart hold 1 goes 1", null);
        int[][] due = {{3, 11, 0b10101, 17, 0b100}, {9, 12, 0b10111, 17, 0b100}, {1, 1, 0, 0, 0}};
        for (int cart = 0; cart < 3; cart++) {
            for (int what = 0; what < 5; what++) {
                Check.is("cart(" + cart + ", " + what + ")", yard.cart(cart, what), due[cart][what]);
            }
        }
        for (int cart : new int[] {-1, 3}) {
            Check.refuses(yard, "cart " + cart, IndexOutOfBoundsException.class, () -> yard.cart(cart, 0));
            Check.refuses(yard, "cart " + cart + " comes first", IndexOutOfBoundsException.class, () -> yard.cart(cart, 7));
        }
        Check.refuses(yard, "what 5", NoSuchElementException.class, () -> yard.cart(0, 5));
        Check.refuses(yard, "what -1", NoSuchElementException.class, () -> yard.cart(0, -1));
        best();
    }

    private static void best() {
        DustYard more = Check.made("street at 3 0 mix 000000 waits 5;street at 0 3 mix 000000 waits 5;street at 3 3 mix 000000 waits 4;"
                + "street at 4 0 mix 000000 waits 5;cart hold 1 goes 12;cart hold 1 goes 8;cart hold 1 goes 6", null);
        Check.is("by a round of 12", more.cart(0, 3), 14);
        Check.is("of the least as bits", more.cart(0, 4), 0b0111);
        Check.is("by a round of 8", more.cart(1, 3), 10);
        Check.is("which", more.cart(1, 4), 0b1001);
        Check.is("by a round of 6", more.cart(2, 3), 5);
        Check.is("the first of two", more.cart(2, 4), 1);
        DustYard near = Check.made("street at 4 0 mix 000000 waits 5;street at 3 0 mix 000000 waits 5;street at 0 0 mix 000000 waits 2;"
                + "cart hold 1 goes 7;cart hold 9 goes 99", null);
        Check.is("a street at the yard is no way", near.cart(0, 3), 7);
        Check.is("which", near.cart(0, 4), 0b110);
        Check.is("hold is no matter", near.cart(1, 3), 12);
        DustYard one = Check.made("street at 4 0 mix 000000 waits 1;cart hold 1 goes 8", null);
        Check.is("one waits", one.cart(0, 3) * 10 + one.cart(0, 4), 11);
        DustYard least = Check.made("street at 9 0 mix 000000 waits 5;street at 2 0 mix 000000 waits 5;cart hold 1 goes 17", null);
        Check.is("one of the two", least.cart(0, 4), 2);
        least.hire(1, 18);
        Check.is("both", least.cart(1, 4), 3);
        DustYard tie = Check.made("street at 9 0 mix 000000 waits 4;street at 0 2 mix 000000 waits 4;cart hold 1 goes 18", null);
        Check.is("of the least way", tie.cart(0, 4), 2);
        tie.image();
        Check.addYard(tie, "street at 0 1 mix 000000 waits 4");
        Check.is("a street more", tie.cart(0, 4), 6);
        Check.is("what it fetches", tie.cart(0, 3), 8);
        tie.back();
        Check.is("it is gone again", tie.cart(0, 4), 2);
        Check.addYard(tie, "street at 9 0 mix 000000 waits 4");
        Check.is("another in its place", tie.cart(0, 4), 5);
    }

    private static void sievesContractsAndHeap() {
        DustYard yard = Check.made("sieve 6;sieve 2;contract 2 to 5 many 10 pays 3;contract 1 to 1 many 1 pays 9;heap 1 7;heap 6 999", null);
        Check.is("mesh 0", yard.mesh(0), 6);
        Check.is("mesh 1", yard.mesh(1), 2);
        Check.refuses(yard, "sieve -1", IndexOutOfBoundsException.class, () -> yard.mesh(-1));
        Check.refuses(yard, "sieve 2", IndexOutOfBoundsException.class, () -> yard.mesh(2));
        yard.drop(1);
        int[][] due = {{2, 5, 10, 3, 1}, {1, 1, 1, 9, 0}};
        for (int contract = 0; contract < 2; contract++) {
            for (int what = 0; what < 5; what++) {
                Check.is("contract(" + contract + ", " + what + ")", yard.contract(contract, what), due[contract][what]);
            }
        }
        for (int contract : new int[] {-1, 2}) {
            Check.refuses(yard, "contract " + contract, IndexOutOfBoundsException.class, () -> yard.contract(contract, 0));
            Check.refuses(yard, "contract " + contract + " comes first", IndexOutOfBoundsException.class,
                    () -> yard.contract(contract, 5));
        }
        Check.refuses(yard, "what 5", NoSuchElementException.class, () -> yard.contract(0, 5));
        Check.refuses(yard, "what -1", NoSuchElementException.class, () -> yard.contract(0, -1));
        int[] heap = {0, 7, 0, 0, 0, 0, 999};
        for (int grain = 1; grain <= 6; grain++) {
            Check.is("heap " + grain, yard.heap(grain), heap[grain]);
        }
        Check.refuses(yard, "heap 0", IndexOutOfBoundsException.class, () -> yard.heap(0));
        Check.refuses(yard, "heap 7", IndexOutOfBoundsException.class, () -> yard.heap(7));
        Check.is("count(13)", yard.count(13), -1);
        Check.is("count(-1)", yard.count(-1), -1);
        Check.is("SIEVES", yard.count(2), 2);
        Check.is("CONTRACTS", yard.count(3), 2);
        Check.is("ACTS", yard.count(12), 1);
    }

    private static void ways() {
        DustYard yard = Check.made("street at 3 4 mix 000000;street at 9 1 mix 000000", null);
        Check.is("to the yard", yard.way(0, -1), 7);
        Check.is("from the yard", yard.way(-1, 1), 10);
        Check.is("of two", yard.way(0, 1), 9);
        Check.is("and back", yard.way(1, 0), 9);
        Check.is("of one", yard.way(1, 1), 0);
        Check.is("of the yard", yard.way(-1, -1), 0);
        Check.refuses(yard, "no first one", IndexOutOfBoundsException.class, () -> yard.way(2, 0));
        Check.refuses(yard, "no other one", IndexOutOfBoundsException.class, () -> yard.way(0, 2));
        Check.refuses(yard, "-2", IndexOutOfBoundsException.class, () -> yard.way(-2, -1));
        Check.refuses(yard, "-2 behind", IndexOutOfBoundsException.class, () -> yard.way(-1, -2));
    }

    private static void most() {
        DustYard yard = Check.made("street at 1 1 mix 000000;street at 2 5 mix 000000;street at 7 0 mix 000000;"
                + "contract 1 to 6 many 20 pays 0;contract 1 to 6 many 3 pays 8;contract 1 to 6 many 12 pays 2", null);
        Check.is("without WAITS the first", yard.most(0), 0);
        Check.is("FARTHEST", yard.most(1), 1);
        Check.is("RICHEST", yard.most(2), 1);
        yard.drop(1);
        Check.is("OPEN or not", yard.most(2), 1);
        Check.addYard(yard, "street at 0 0 mix 000000 waits 4;street at 9 0 mix 000000 waits 4;contract 1 to 6 many 5 pays 5");
        Check.is("FULLEST, the first of two", yard.most(0), 3);
        Check.is("FARTHEST", yard.most(1), 4);
        Check.is("RICHEST", yard.most(2), 3);
        DustYard one = Check.made("street at 0 0 mix 000000;contract 1 to 1 many 1 pays 0", null);
        DustYard none = new DustYard();
        for (int what = 0; what < 3; what++) {
            Check.is("one", one.most(what), 0);
            Check.is("none", none.most(what), -1);
        }
        Check.refuses(yard, "what 3", NoSuchElementException.class, () -> yard.most(3));
        Check.refuses(yard, "what -1", NoSuchElementException.class, () -> yard.most(-1));
    }

    private static void openOnes() {
        DustYard yard = Check.made("contract 1 to 2 many 9 pays 1;contract 2 to 3 many 5 pays 1;contract 3 to 3 many 5 pays 1;"
                + "contract 6 to 6 many 1 pays 1;heap 1 5;heap 2 4;heap 3 1", null);
        Check.is("OPEN", yard.open(false), 0b1111);
        Check.is("CAN", yard.open(true), 0b0011);
        yard.drop(0);
        Check.is("OPEN", yard.open(false), 0b1110);
        Check.is("CAN", yard.open(true), 0b0010);
        yard.fill(1);
        Check.is("OPEN", yard.open(false), 0b1100);
        Check.is("CAN", yard.open(true), 0);
    }

    private static void twins() {
        DustYard yard = Check.made("street at 1 1 mix 123456;street at 2 5 mix 123456 waits 9;street at 7 0 mix 123457;"
                + "street at 1 1 mix 023456;street at 9 9 mix 123456", null);
        Check.is("three alike are three pairs", yard.twins(), 3);
        yard.lay(2, 6, 6);
        Check.is("four alike", yard.twins(), 6);
        yard.lay(0, 1, 0);
        Check.is("three and two", yard.twins(), 4);
        Check.is("none", new DustYard().twins(), 0);
    }

    private static void wanted() {
        DustYard yard = Check.made("contract 1 to 2 many 9 pays 1;contract 2 to 4 many 5 pays 1;contract 4 to 6 many 5 pays 1;"
                + "contract 2 to 2 many 1 pays 1", null);
        int[] due = {0, 0b0001, 0b1011, 0b0010, 0b0110, 0b0100, 0b0100};
        for (int grain = 1; grain <= 6; grain++) {
            Check.is("wanted " + grain, yard.wanted(grain), due[grain]);
        }
        yard.drop(1);
        Check.is("OPEN ones alone", yard.wanted(2), 0b1001);
        Check.refuses(yard, "grain 0", IndexOutOfBoundsException.class, () -> yard.wanted(0));
        Check.refuses(yard, "grain 7", IndexOutOfBoundsException.class, () -> yard.wanted(7));
    }
}
