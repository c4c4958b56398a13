/** Promises 23 to 32 and 40: each sentence that names a boundary case has a test of its own. */
public final class HeapEdgesTest {
    private static final Class<IndexOutOfBoundsException> NO_SUCH_THING = IndexOutOfBoundsException.class;
    private static final Class<IllegalArgumentException> NO_SUCH_NUMBER = IllegalArgumentException.class;
    private static final int[] FAR_OFF = {Integer.MIN_VALUE, -2, Integer.MAX_VALUE};

    private HeapEdgesTest() {
    }

    public static void main(String[] args) {
        classes();
        othersThanSieves();
        classOf();
        held();
        fewestWhole();
        fewestLeast();
        fewestNone();
        clean();
        cleanOfNothing();
        roundLeast();
        roundTape();
        trips();
        tripsNone();
        worth();
        serves();
        blendFewest();
        blendBounds();
        blendRefused();
        pairsMost();
        pairsFirst();
        pairsCrossed();
        pairsRefused();
        Check.end();
    }

    // ---- SIEVES

    private static void classes() {
        Check.sentence("CLASSES .. into how many runs of GRAINS 1 to 6 their MESHES part these (a MESH above which, or below which, no GRAIN is parts nothing)");
        Check.is("no SIEVE at all", new DustYard().classes(-1), 1);
        DustYard yard = Check.made("sieve 2;sieve 6;sieve 4;sieve 4", null);
        Check.is("an empty set", yard.classes(0), 1);
        Check.is("MESH 2 parts 1 from 2", yard.classes(1), 2);
        Check.is("MESH 6 parts 5 from 6", yard.classes(2), 2);
        Check.is("two of one MESH", yard.classes(0b1100), 2);
        Check.is("all", yard.classes(0b1111), 4);
        DustYard other = Check.made("sieve 2;sieve 3;sieve 5;sieve 6", null);
        Check.is("the most", other.classes(0b1111), 5);
    }

    private static void othersThanSieves() {
        Check.sentence("23: (others than SIEVES that there are count for nothing, here and below)");
        DustYard yard = Check.made("sieve 4;contract 4 to 4 many 1 pays 1;heap 4 1;heap 6 1", null);
        for (int others : new int[] {2, 4, 8, 16, 0x40000000, Integer.MIN_VALUE, -2}) {
            Check.is("classes of " + others, yard.classes(others), 1);
            Check.is("with the one", yard.classes(others | 1), 2);
            Check.is("classOf of " + others, yard.classOf(others, 1), 16);
            Check.is("with the one", yard.classOf(others | 1, 1), 13);
            Check.is("held of " + others, yard.held(others, 1), 2);
            Check.is("with the one", yard.held(others | 1, 1), 0);
            Check.is("clean of " + others, yard.clean(0, others), 50);
        }
        DustYard bought = Check.made("till 5;sieve 4", null);
        Check.is("ahead of buying", bought.classes(0b11), 2);
        bought.buy(2);
        Check.is("then it counts", bought.classes(0b11), 3);
    }

    private static void classOf() {
        Check.sentence("CLASS of a set and a GRAIN: 10 times the least and the greatest GRAIN of the run in which it is");
        DustYard yard = Check.made("sieve 2;sieve 6;sieve 3;sieve 4", null);
        int[][] due = {{0, 16, 16, 16, 16, 16, 16}, {0b0001, 11, 26, 26, 26, 26, 26}, {0b0010, 15, 15, 15, 15, 15, 66},
            {0b0011, 11, 25, 25, 25, 25, 66}, {0b1100, 12, 12, 33, 46, 46, 46}, {0b1111, 11, 22, 33, 45, 45, 66}};
        for (int[] row : due) {
            for (int grain = 1; grain <= 6; grain++) {
                Check.is("classOf(" + row[0] + ", " + grain + ")", yard.classOf(row[0], grain), row[grain]);
            }
        }
        Check.sentence("24: IndexOutOfBoundsException: there is no such GRAIN");
        for (int grain : new int[] {0, 7, -1, Integer.MIN_VALUE, Integer.MAX_VALUE}) {
            Check.refuses(yard, "GRAIN " + grain, NO_SUCH_THING, () -> yard.classOf(1, grain));
        }
    }

    private static void held() {
        Check.sentence("HELD of a set and a GRAIN: how many the HEAP has in that run");
        DustYard yard = Check.made("sieve 2;sieve 6;heap 1 1;heap 2 10;heap 3 100;heap 4 200;heap 5 400;heap 6 800", null);
        Check.is("all", yard.held(0, 1), 1511);
        Check.is("the finest alone", yard.held(3, 1), 1);
        Check.is("between, from its least", yard.held(3, 2), 710);
        Check.is("between, from its greatest", yard.held(3, 5), 710);
        Check.is("the coarsest alone", yard.held(3, 6), 800);
        Check.is("of an empty HEAP", new DustYard().held(0, 6), 0);
        DustYard full = Check.made("street at 0 0 mix 999999 waits 99;cart hold 9 goes 1;cart hold 9 goes 1;cart hold 9 goes 1", "more 98");
        full.days(60);
        Check.is("of a full one", full.held(0, 3), 6 * 9999);
        Check.sentence("25: IndexOutOfBoundsException: there is no such GRAIN");
        for (int grain : new int[] {0, 7, -1, Integer.MIN_VALUE, Integer.MAX_VALUE}) {
            Check.refuses(yard, "GRAIN " + grain, NO_SUCH_THING, () -> yard.held(1, grain));
        }
    }

    private static int fewest(String sieves, String contracts) {
        return Check.made(sieves + ";" + contracts, null).fewest();
    }

    private static void fewestWhole() {
        Check.sentence("FEWEST: the fewest SIEVES so that GRAINS of each OPEN CONTRACT are whole runs (0 without one)");
        Check.is("nothing at all", new DustYard().fewest(), 0);
        Check.is("without a CONTRACT", Check.made("sieve 2;sieve 3", null).fewest(), 0);
        Check.is("all GRAINS", fewest("sieve 2;sieve 3", "contract 1 to 6 many 1 pays 1"), 0);
        Check.is("the finest", fewest("sieve 6;sieve 2", "contract 1 to 1 many 1 pays 1"), 0b10);
        Check.is("the coarsest", fewest("sieve 2;sieve 6", "contract 6 to 6 many 1 pays 1"), 0b10);
        Check.is("in between, by two", fewest("sieve 2;sieve 3;sieve 4", "contract 3 to 3 many 1 pays 1"), 0b110);
        Check.is("two that lie side by side", fewest("sieve 4", "contract 1 to 3 many 1 pays 1;contract 4 to 6 many 1 pays 1"), 0b1);
        Check.is("all but for the finest", fewest("sieve 6;sieve 2", "contract 2 to 6 many 1 pays 1"), 0b10);
        Check.is("all but for the coarsest", fewest("sieve 2;sieve 6", "contract 1 to 5 many 1 pays 1"), 0b10);
        Check.is("each of several", fewest("sieve 3;sieve 5", "contract 3 to 6 many 1 pays 1;contract 1 to 4 many 1 pays 1;contract 1 to 6 many 1 pays 1"), 0b11);
        DustYard dropped = Check.made("sieve 2;contract 1 to 1 many 1 pays 1", null);
        Check.is("OPEN", dropped.fewest(), 1);
        dropped.drop(0);
        Check.is("not OPEN", dropped.fewest(), 0);
    }

    private static void fewestLeast() {
        Check.sentence("FEWEST .. of several the least as bits");
        Check.is("the first of two alike", fewest("sieve 4;sieve 4", "contract 1 to 3 many 1 pays 1"), 0b01);
        Check.is("the first ones of four", fewest("sieve 4;sieve 5;sieve 5;sieve 4", "contract 4 to 4 many 1 pays 1"), 0b0011);
    }

    private static void fewestNone() {
        Check.sentence("FEWEST .. none; 26: NONE");
        Check.is("no SIEVE", Check.made("contract 1 to 1 many 1 pays 1", null).fewest(), -1);
        Check.is("none at its LOW", fewest("sieve 5", "contract 3 to 4 many 1 pays 1"), -1);
        Check.is("none above its HIGH", fewest("sieve 3", "contract 3 to 4 many 1 pays 1"), -1);
        Check.is("one of two can be", fewest("sieve 3", "contract 1 to 2 many 1 pays 1;contract 1 to 1 many 1 pays 1"), -1);
    }

    private static void clean() {
        Check.sentence("CLEAN .. of the runs that have some of its GRAINS, how many .. are of its GRAINS, in hundredths, rounded down");
        DustYard yard = Check.made("sieve 3;sieve 5;contract 3 to 4 many 1 pays 1;contract 2 to 3 many 1 pays 1;heap 1 1;heap 2 2;heap 3 3;heap 4 4;heap 5 5", null);
        Check.is("without a SIEVE, 7 of 15", yard.clean(0, 0), 46);
        Check.is("just its run", yard.clean(0, 3), 100);
        Check.is("two runs, 5 of 10", yard.clean(1, 3), 50);
        DustYard third = Check.made("contract 1 to 1 many 1 pays 1;heap 1 2;heap 2 1", null);
        Check.is("two thirds, rounded down", third.clean(0, 0), 66);
        DustYard few = Check.made("contract 1 to 1 many 1 pays 1;heap 1 1;heap 2 100", null);
        Check.is("below a hundredth", few.clean(0, 0), 0);
        DustYard most = Check.made("contract 1 to 5 many 1 pays 1;heap 1 999;heap 6 1", null);
        Check.is("below a hundred", most.clean(0, 0), 99);
        DustYard full = Check.made("street at 0 0 mix 999999 waits 99;cart hold 9 goes 1;cart hold 9 goes 1;cart hold 9 goes 1", "more 98");
        full.days(60);
        full.take(1, 6, 1, 1);
        full.take(2, 6, 1, 1);
        Check.is("all of a full HEAP", full.clean(0, 0), 100);
        Check.is("five sixths of a full HEAP", full.clean(1, 0), 83);
    }

    private static void cleanOfNothing() {
        Check.sentence("CLEAN .. (100, if these have none)");
        DustYard yard = Check.made("sieve 3;contract 3 to 4 many 1 pays 1;heap 1 5", null);
        Check.is("these have none", yard.clean(0, 1), 100);
        Check.is("some, none of its GRAINS", yard.clean(0, 0), 0);
        Check.sentence("27: IndexOutOfBoundsException: there is no such CONTRACT");
        for (int contract : new int[] {1, -1, Integer.MIN_VALUE, Integer.MAX_VALUE}) {
            Check.refuses(yard, "CONTRACT " + contract, NO_SUCH_THING, () -> yard.clean(contract, 0));
        }
        DustYard none = new DustYard();
        Check.refuses(none, "0 of none", NO_SUCH_THING, () -> none.clean(0, 0));
        yard.drop(0);
        Check.is("OPEN or not", yard.clean(0, 0), 0);
    }

    // ---- rounds

    private static int round(DustYard yard, int... streets) {
        Check.tell(yard, streets);
        return yard.round();
    }

    private static DustYard town() {
        return Check.made("street at 9 0 mix 000000;street at 0 9 mix 000000;street at 9 9 mix 000000;street at 0 0 mix 000000;"
                + "street at 5 5 mix 000000;street at 4 5 mix 000000;street at 1 1 mix 000000", null);
    }

    private static void roundLeast() {
        Check.sentence("ROUND .. the least way from THE YARD to all of these and back (0 of none)");
        Check.is("none", round(town()), 0);
        Check.is("none of no STREETS", round(new DustYard()), 0);
        Check.is("at THE YARD", round(town(), 3), 0);
        Check.is("one", round(town(), 2), 36);
        Check.is("in an order that is not theirs", round(town(), 0, 1, 2), 36);
        Check.is("the last of 7", round(town(), 6), 4);
        Check.is("6", round(town(), 0, 1, 2, 4, 5, 6), 46);
    }

    private static void roundTape() {
        Check.sentence("told are STREETS (bytes; at most 6, one twice, too)");
        Check.is("one twice", round(town(), 2, 2), 36);
        Check.is("one six times", round(town(), 2, 2, 2, 2, 2, 2), 36);
        Check.sentence("28: Uses the TAPE up");
        DustYard used = town();
        round(used, 2);
        Check.is("it is used up", used.end(1), false);
        Check.sentence("28: IllegalArgumentException: the TAPE is not that");
        int[][] wrong = {{7}, {255}, {128}, {0, 1, 2, 3, 4, 5, 6}, {2, 2, 2, 2, 2, 2, 2}, {0, 7}, {0, 1, 2, 3, 4, 7}, new int[20], new int[400]};
        for (int[] streets : wrong) {
            DustYard yard = town();
            Check.tell(yard, streets);
            Check.refusesTape(yard, streets.length + " bytes", NO_SUCH_NUMBER, yard::round);
            Check.is("then none is told", yard.round(), 0);
        }
        DustYard none = new DustYard();
        Check.tell(none, 0);
        Check.refusesTape(none, "0 of none", NO_SUCH_NUMBER, none::round);
    }

    private static void trips() {
        Check.sentence("TRIPS: the fewest sets .. each a round of at most N .. all of these STREETS are in one at least (0 without WAITS)");
        Check.is("no STREET", new DustYard().trips(0), 0);
        Check.is("without WAITS", town().trips(0), 0);
        DustYard here = Check.made("street at 0 0 mix 000000 waits 1", null);
        Check.is("at THE YARD, by 0", here.trips(0), 1);
        DustYard two = Check.made("street at 3 0 mix 000000 waits 1;street at 0 3 mix 000000 waits 99;street at 9 9 mix 000000", null);
        Check.is("together by 12", two.trips(12), 1);
        Check.is("each alone by 11", two.trips(11), 2);
        Check.is("each alone by 6", two.trips(6), 2);
        Check.is("by 99", two.trips(99), 1);
        DustYard seven = Check.made("street at 9 0 mix 000000 waits 1;street at 0 9 mix 000000 waits 1;street at 8 1 mix 000000 waits 1;"
                + "street at 1 8 mix 000000 waits 1;street at 5 4 mix 000000 waits 1;street at 4 5 mix 000000 waits 1;"
                + "street at 7 2 mix 000000 waits 1", null);
        Check.is("each of 7 alone", seven.trips(18), 7);
        // By 24 only those side by side go together: 0 and 3, 3 and 2, 2 and 1.
        DustYard chain = Check.made("street at 9 0 mix 000000 waits 1;street at 0 9 mix 000000 waits 1;street at 3 6 mix 000000 waits 1;"
                + "street at 6 3 mix 000000 waits 1", null);
        Check.is("two by two", chain.trips(24), 2);
        Check.is("each alone", chain.trips(23), 4);
        Check.is("all of 7 together", seven.trips(36), 1);
    }

    private static void tripsNone() {
        Check.sentence("TRIPS .. none; 29: NONE");
        DustYard two = Check.made("street at 3 0 mix 000000 waits 1;street at 0 4 mix 000000 waits 9", null);
        Check.is("one of both is too far", two.trips(7), -1);
        Check.is("just as far", two.trips(8), 2);
        Check.is("by 0", two.trips(0), -1);
        Check.sentence("29: IllegalArgumentException: N is none (0 to 99)");
        for (DustYard yard : new DustYard[] {two, new DustYard()}) {
            for (int n : new int[] {-1, 100, Integer.MIN_VALUE, Integer.MAX_VALUE}) {
                Check.refuses(yard, "N " + n, NO_SUCH_NUMBER, () -> yard.trips(n));
            }
        }
    }

    // ---- CONTRACTS together

    private static void worth() {
        Check.sentence("WORTH: OPEN CONTRACTS, so that the HEAP as it is has enough for all of them together");
        Check.is("none", new DustYard().worth(), 0);
        Check.is("an empty HEAP", Check.made("contract 1 to 6 many 1 pays 9", null).worth(), 0);
        Check.is("just enough", Check.made("contract 2 to 3 many 8 pays 9;heap 2 3;heap 3 5", null).worth(), 72);
        Check.is("one too few", Check.made("contract 2 to 3 many 9 pays 9;heap 1 9;heap 2 3;heap 3 5;heap 4 9", null).worth(), 0);
        Check.is("two, just enough", Check.made("contract 1 to 2 many 4 pays 1;contract 2 to 3 many 4 pays 2;heap 1 3;heap 2 2;heap 3 3", null).worth(), 12);
        Check.is("two, one too few", Check.made("contract 1 to 2 many 4 pays 1;contract 2 to 3 many 4 pays 2;heap 1 3;heap 2 1;heap 3 3", null).worth(), 8);
        Check.is("too few of the coarsest", Check.made("contract 6 to 6 many 5 pays 3;heap 5 9;heap 6 4", null).worth(), 0);
        Check.is("too few of the finest", Check.made("contract 1 to 1 many 5 pays 3;heap 1 4;heap 2 9", null).worth(), 0);
        Check.sentence("WORTH .. (each single one for one CONTRACT alone, put to these as goes best for all)");
        DustYard narrow = Check.made("contract 1 to 6 many 5 pays 1;contract 6 to 6 many 5 pays 1;heap 1 5;heap 6 5", null);
        Check.is("the wide one takes what the narrow one does not want", narrow.worth(), 10);
        Check.is("the most there can be", Check.made("contract 1 to 1 many 99 pays 9;contract 1 to 1 many 99 pays 9;contract 1 to 1 many 99 pays 9;"
                + "contract 1 to 1 many 99 pays 9;contract 1 to 1 many 99 pays 9;contract 1 to 1 many 99 pays 9;heap 1 594", null).worth(), 5346);
        narrow.drop(0);
        Check.is("OPEN ones", narrow.worth(), 5);
    }

    private static void serves() {
        Check.sentence("SERVES: these (of the fewest, of several the least as bits; 0, if WORTH is 0)");
        Check.is("none", new DustYard().serves(), 0);
        Check.is("WORTH is 0 for nothing", Check.made("contract 1 to 1 many 1 pays 0;heap 1 9", null).serves(), 0);
        Check.is("WORTH is 0 by too few", Check.made("contract 1 to 1 many 9 pays 9;heap 1 8", null).serves(), 0);
        Check.is("of the fewest", Check.made("contract 1 to 1 many 2 pays 1;contract 1 to 1 many 2 pays 1;contract 1 to 1 many 4 pays 1;heap 1 4", null).serves(), 0b100);
        Check.is("not one for nothing, too", Check.made("contract 1 to 1 many 2 pays 0;contract 1 to 1 many 2 pays 1;heap 1 9", null).serves(), 0b10);
        Check.is("the least as bits", Check.made("contract 1 to 1 many 2 pays 1;contract 1 to 1 many 2 pays 1;contract 1 to 1 many 2 pays 1;heap 1 5", null).serves(), 0b011);
        DustYard all = Check.made("contract 1 to 1 many 1 pays 1;contract 2 to 2 many 1 pays 1;contract 3 to 3 many 1 pays 1;"
                + "contract 4 to 4 many 1 pays 1;contract 5 to 5 many 1 pays 1;contract 6 to 6 many 1 pays 1;heap 1 1;heap 2 1;"
                + "heap 3 1;heap 4 1;heap 5 1;heap 6 1", null);
        Check.is("all 6", all.serves(), 0b111111);
        all.drop(0);
        all.drop(5);
        Check.is("OPEN ones", all.serves(), 0b011110);
        for (int contract = 1; contract < 5; contract++) {
            all.drop(contract);
        }
        Check.is("none is OPEN", all.serves(), 0);
    }

    // ---- loads mixed

    private static DustYard loads() {
        return Check.made("street at 1 1 mix 910000;street at 1 1 mix 190000;street at 1 1 mix 000000;street at 1 1 mix 000001", null);
    }

    private static void blendFewest() {
        Check.sentence("BLEND .. the fewest loads, of several the fewest of the first one; none");
        Check.is("both would do: none of the first one", loads().blend(0, 1, 1, 10), 1);
        Check.is("only the first one does", loads().blend(0, 1, 1, 11), 10);
        Check.is("just as much", loads().blend(0, 1, 1, 90), 10);
        Check.is("more than either has", loads().blend(0, 1, 1, 91), -1);
        DustYard sixths = Check.made("street at 1 1 mix 510000;street at 1 1 mix 180000", null);
        Check.is("83 hundredths of five sixths", sixths.blend(0, 1, 1, 83), 10);
        Check.is("84 are a little too many", sixths.blend(0, 1, 1, 84), -1);
        Check.is("one that has none of it", loads().blend(0, 1, 6, 1), -1);
        Check.sentence("BLEND .. (something must be in these)");
        Check.is("the other one is empty", loads().blend(3, 2, 6, 100), 10);
        Check.is("the first one is empty", loads().blend(2, 3, 6, 100), 1);
        Check.is("0 hundredths of nothing are none", Check.made("street at 1 1 mix 000000;street at 1 1 mix 000000", null).blend(0, 1, 1, 0), -1);
    }

    private static void blendBounds() {
        Check.sentence("BLEND of two STREETS, a GRAIN and P (0 to 100)");
        Check.is("P 0", loads().blend(0, 1, 6, 0), 1);
        Check.is("P 100", loads().blend(0, 3, 6, 100), 1);
        Check.is("P 100 of less", loads().blend(0, 1, 1, 100), -1);
        for (int p : new int[] {-1, 101, Integer.MIN_VALUE, Integer.MAX_VALUE}) {
            DustYard yard = loads();
            Check.refuses(yard, "P " + p, NO_SUCH_NUMBER, () -> yard.blend(0, 1, 1, p));
        }
        Check.is("GRAIN 1", loads().blend(1, 0, 1, 90), 1);
        Check.is("GRAIN 6", loads().blend(3, 0, 6, 1), 10);
    }

    private static void blendRefused() {
        Check.sentence("32: IllegalArgumentException: both are one");
        DustYard yard = loads();
        Check.refuses(yard, "the first", NO_SUCH_NUMBER, () -> yard.blend(0, 0, 1, 0));
        Check.refuses(yard, "the last", NO_SUCH_NUMBER, () -> yard.blend(3, 3, 6, 100));
        Check.sentence("32: IndexOutOfBoundsException: there is no such STREET, GRAIN");
        int[][] none = {{4, 0, 1}, {0, 4, 1}, {-1, 0, 1}, {0, -1, 1}, {0, 1, 0}, {0, 1, 7}, {0, 1, -1}};
        for (int[] row : none) {
            DustYard other = loads();
            Check.refuses(other, row[0] + " " + row[1] + " " + row[2], NO_SUCH_THING, () -> other.blend(row[0], row[1], row[2], 0));
            Check.refuses(other, "told first", NO_SUCH_THING, () -> other.blend(row[0], row[1], row[2], 101));
        }
        DustYard first = loads();
        Check.refuses(first, "no STREET, twice: told first", NO_SUCH_THING, () -> first.blend(4, 4, 1, 0));
        Check.refuses(first, "no GRAIN of one STREET: told first", NO_SUCH_THING, () -> first.blend(0, 0, 7, 0));
        for (int far : FAR_OFF) {
            DustYard other = loads();
            Check.refuses(other, "far off", NO_SUCH_THING, () -> other.blend(far, 0, 1, 0));
            Check.refuses(other, "far off", NO_SUCH_THING, () -> other.blend(0, far, 1, 0));
            Check.refuses(other, "far off", NO_SUCH_THING, () -> other.blend(0, 1, far, 0));
        }
    }

    // ---- CONTRACTS two by two

    private static void pairsMost() {
        Check.sentence("PAIRS: OPEN CONTRACTS put two by two .. only such as have a GRAIN in common, so that PAYS .. are together the most");
        Check.is("none", new DustYard().pairs(-1), 0);
        Check.is("one", Check.made("contract 1 to 6 many 1 pays 9", null).pairs(-1), 0);
        Check.is("just one GRAIN in common", Check.made("contract 1 to 3 many 9 pays 4;contract 3 to 6 many 9 pays 5", null).pairs(-1), 9);
        Check.is("side by side", Check.made("contract 1 to 3 many 9 pays 4;contract 4 to 6 many 9 pays 5", null).pairs(-1), 0);
        Check.is("the coarser one first", Check.made("contract 3 to 6 many 9 pays 4;contract 1 to 3 many 9 pays 5", null).pairs(-1), 9);
        Check.is("the coarser one first, side by side", Check.made("contract 4 to 6 many 9 pays 4;contract 1 to 3 many 9 pays 5", null).pairs(-1), 0);
        DustYard six = Check.made("contract 1 to 6 many 1 pays 9;contract 1 to 6 many 1 pays 9;contract 1 to 6 many 1 pays 9;"
                + "contract 1 to 6 many 1 pays 9;contract 1 to 6 many 1 pays 9;contract 1 to 6 many 1 pays 9", null);
        Check.is("all 6", six.pairs(-1), 54);
        six.drop(2);
        Check.is("one of 5 is left over", six.pairs(-1), 36);
    }

    private static void pairsFirst() {
        Check.sentence("PAIRS .. with which one is in the first such way (CONTRACT by CONTRACT, none being the least, then the others); none");
        DustYard nothing = Check.made("contract 1 to 6 many 1 pays 0;contract 1 to 6 many 1 pays 0", null);
        Check.is("for nothing, none is the least", nothing.pairs(0), -1);
        DustYard five = Check.made("contract 1 to 6 many 1 pays 1;contract 1 to 6 many 1 pays 1;contract 1 to 6 many 1 pays 1;"
                + "contract 1 to 6 many 1 pays 1;contract 1 to 6 many 1 pays 1", null);
        int[] due = {-1, 2, 1, 4, 3};
        for (int contract = 0; contract < 5; contract++) {
            Check.is("of 5 alike, " + contract, five.pairs(contract), due[contract]);
        }
        five.drop(0);
        Check.is("not OPEN", five.pairs(0), -1);
        Check.is("the first OPEN one", five.pairs(1), 2);
        DustYard six = Check.made("contract 1 to 6 many 1 pays 1;contract 1 to 6 many 1 pays 1;contract 1 to 6 many 1 pays 1;"
                + "contract 1 to 6 many 1 pays 1;contract 1 to 6 many 1 pays 1;contract 1 to 6 many 1 pays 1", null);
        int[] two = {1, 0, 3, 2, 5, 4};
        for (int contract = 0; contract < 6; contract++) {
            Check.is("of 6 alike, " + contract, six.pairs(contract), two[contract]);
        }
    }

    private static void pairsCrossed() {
        Check.sentence("PAIRS .. each in one such pair at most, only such as have a GRAIN in common");
        DustYard crossed = Check.made("contract 1 to 2 many 1 pays 1;contract 5 to 6 many 1 pays 1;contract 1 to 1 many 1 pays 1;contract 6 to 6 many 1 pays 1", null);
        Check.is("two pairs", crossed.pairs(-1), 4);
        int[] due = {2, 3, 0, 1};
        for (int contract = 0; contract < 4; contract++) {
            Check.is("with which is " + contract, crossed.pairs(contract), due[contract]);
        }
        crossed.drop(2);
        Check.is("one pair", crossed.pairs(-1), 2);
        Check.is("no more", crossed.pairs(0), -1);
    }

    private static void pairsRefused() {
        Check.sentence("40: IndexOutOfBoundsException: there is no such CONTRACT");
        DustYard none = new DustYard();
        Check.refuses(none, "0 of none", NO_SUCH_THING, () -> none.pairs(0));
        DustYard one = Check.made("contract 1 to 6 many 1 pays 9", null);
        Check.is("alone", one.pairs(0), -1);
        Check.refuses(one, "1", NO_SUCH_THING, () -> one.pairs(1));
        for (int far : FAR_OFF) {
            Check.refuses(one, "far off", NO_SUCH_THING, () -> one.pairs(far));
        }
    }
}
