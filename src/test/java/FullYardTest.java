/** A yard with as many of all as there may be, and one with nothing: every call goes well in both. */
public final class FullYardTest {
    private FullYardTest() {
    }

    public static void main(String[] args) {
        looksOfAFullYard();
        guessesOfAFullYard();
        aDayOfAFullYard();
        nothingMoreGoesIn();
        anEmptyYard();
        Check.end();
    }

    /** STREETS 0 to 6 lie one behind another, of GRAIN 6 alone, and the farther the more waits. */
    private static DustYard full() {
        StringBuilder streets = new StringBuilder("till 999");
        for (int i = 0; i < 7; i++) {
            streets.append(";street at ").append(i).append(" 0 mix 00000").append(i).append(" waits ").append(10 + i);
        }
        DustYard yard = Check.made(streets.toString(), null);
        Check.addYard(yard, "cart hold 9 goes 99;cart hold 9 goes 99;cart hold 9 goes 99;sieve 2;sieve 3;sieve 4;sieve 5;"
                + "heap 1 1;heap 2 1;heap 3 1;heap 4 1;heap 5 1;heap 6 1");
        Check.addYard(yard, "contract 1 to 1 many 1 pays 1;contract 2 to 2 many 1 pays 2;contract 3 to 3 many 1 pays 3;"
                + "contract 4 to 4 many 1 pays 4;contract 5 to 6 many 1 pays 5;contract 5 to 6 many 1 pays 6");
        Check.addLaw(yard, "more 0;more 0;more 0;more 0;more 0;more 0;less 0;less 0;less 0;toll 0;toll 0;toll 0");
        return yard;
    }

    private static void looksOfAFullYard() {
        Check.sentence("STREETS (at most 7), CARTS (at most 3), SIEVES (at most 4), CONTRACTS (at most 6)");
        DustYard yard = full();
        int[] counts = {7, 3, 4, 6, 3, 12, 0, 0, 999, 0, 0, 0, 0, -1};
        for (int what = 0; what < counts.length; what++) {
            Check.is("count " + what, yard.count(what), counts[what]);
        }
        Check.is("PART of the last", yard.street(6, 7), 16 * 100 / 91);
        Check.is("REACHED", yard.cart(2, 2), 127);
        Check.is("BEST", yard.cart(2, 3), 91);
        Check.is("WHICH", yard.cart(2, 4), 127);
        Check.is("the last MESH", yard.mesh(3), 5);
        Check.is("the last CONTRACT", yard.contract(5, 3), 6);
        Check.is("the way of the last", yard.way(6, 0), 6);
        Check.is("CLASSES", yard.classes(15), 5);
        Check.is("CLASS", yard.classOf(15, 6), 56);
        Check.is("HELD", yard.held(15, 6), 2);
        Check.is("FEWEST", yard.fewest(), 15);
        Check.is("CLEAN", yard.clean(5, 15), 100);
        Check.is("TRIPS", yard.trips(12), 1);
        Check.is("TRIPS of less", yard.trips(11), -1);
        Check.is("WORTH", yard.worth(), 21);
        Check.is("SERVES", yard.serves(), 63);
        Check.is("PAIRS", yard.pairs(-1), 11);
        Check.is("the last of these", yard.pairs(5), 4);
        Check.is("FULLEST", yard.most(0), 6);
        Check.is("FARTHEST", yard.most(1), 6);
        Check.is("RICHEST", yard.most(2), 5);
        Check.is("OPEN", yard.open(false), 63);
        Check.is("CAN", yard.open(true), 63);
        Check.is("TWINS", yard.twins(), 0);
        for (int grain = 1; grain <= 6; grain++) {
            Check.is("WANTED", yard.wanted(grain), grain < 5 ? 1 << grain - 1 : 0b110000);
        }
    }

    private static void guessesOfAFullYard() {
        Check.sentence("STREETS (at most 7), CARTS (at most 3): what is guessed, shared and chosen");
        DustYard yard = full();
        Check.tell(yard, 6, 5, 4, 3, 2, 1);
        Check.is("ROUND of 6", yard.round(), 12);
        Check.is("FROM", yard.from(), 127);
        Check.is("LIKELY", yard.likely(), 0);
        Check.is("ASK", yard.ask(), 6);
        Check.tell(yard, 6, 6, 6, 6);
        Check.is("FROM the last", yard.from(), 64);
        Check.tell(yard, 6, 6);
        Check.is("LIKELY the last", yard.likely(), 6);
        Check.is("BLEND", yard.blend(6, 5, 6, 100), 1);
        Check.is("the last SHARE", yard.share(2, 99), 9);
        Check.is("the first SHARE", yard.share(0, 99), 81);
        Check.is("RESTS", yard.rests(6), 0b1000);
        Check.is("ENDS", yard.ends(), 0);
        Check.is("SIDE", yard.side(), 0);
    }

    private static void aDayOfAFullYard() {
        Check.sentence("A DAY more: each STREET, each CART, each CONTRACT");
        DustYard yard = full();
        Check.is("AHEAD, of the last", yard.ahead(6, 1), 8);
        Check.is("AHEAD, of the HEAP", yard.ahead(-1, 1), 135);
        Check.is("TRIAL", yard.trial(1, false), 1020);
        Check.is("TRIAL, of the HEAP", yard.trial(1, true), 135);
        Check.is("SPAN", yard.span(1, true), 1020);
        Check.is("all are FILLED", yard.days(1), 6);
        int[] waits = {11, 12, 13, 14, 6, 7, 8};
        for (int street = 0; street < 7; street++) {
            Check.is("WAITS", yard.street(street, 2), waits[street]);
        }
        // 9 loads of 6, of 5 and of 4, and two of it go to the CONTRACTS of 5 to 6.
        Check.is("GRAIN 6", yard.heap(6), 1 + 54 + 45 + 36 - 2);
        Check.is("GRAIN 5", yard.heap(5), 1);
        Check.is("TILL", yard.count(8), 1020);
        Check.is("rows", yard.count(11), 9);
        Check.is("the first row", yard.log(8, 3), 6);
        Check.is("the last row", yard.log(0, 1), 5);
        Check.is("LED", yard.led(6, false), 1);
        Check.is("none is OPEN", yard.open(false), 0);
    }

    private static void nothingMoreGoesIn() {
        Check.sentence("IllegalStateException: it cannot be");
        DustYard yard = full();
        Check.refuses(yard, "a SIEVE", IllegalStateException.class, () -> yard.buy(2));
        Check.refuses(yard, "a CONTRACT", IllegalStateException.class, () -> yard.take(1, 1, 1, 1));
        Check.refuses(yard, "a CART", IllegalStateException.class, () -> yard.hire(1, 1));
    }

    private static void anEmptyYard() {
        Check.sentence("A yard without dust: all that can be asked of nothing");
        DustYard yard = new DustYard();
        int[] nothing = {yard.heap(1), yard.way(-1, -1), yard.held(-1, 3), yard.fewest(), yard.round(), yard.trips(0), yard.worth(),
            yard.serves(), yard.from(), yard.ends(), yard.side(), yard.pairs(-1), yard.odds(5, 1), yard.open(false), yard.open(true),
            yard.twins(), yard.wanted(6), yard.ahead(-1, 60), yard.trial(60, false), yard.trial(60, true), yard.span(60, false),
            yard.span(60, true), yard.days(60), yard.law()};
        for (int i = 0; i < nothing.length; i++) {
            Check.is("nothing " + i, nothing[i], 0);
        }
        int[] none = {yard.fault(), yard.likely(), yard.ask(), yard.most(0), yard.most(1), yard.most(2)};
        for (int i = 0; i < none.length; i++) {
            Check.is("none " + i, none[i], -1);
        }
        Check.is("one run", yard.classes(-1), 1);
        Check.is("of all GRAINS", yard.classOf(-1, 3), 16);
        Check.is("all pairs of sieves", yard.meshes(false), 21);
        Check.is("the least pair of sieves", yard.meshes(true), 22);
        Check.is("SIFT", yard.sift(), 4);
        Check.is("no row", yard.log(0, 0), -2);
        Check.is("no SMOKE", yard.douse(), false);
    }
}
