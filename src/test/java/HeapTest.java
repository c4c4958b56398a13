/** Promises 23 to 32 and 40: SIEVES, rounds, CONTRACTS together and two by two, loads mixed. */
public final class HeapTest {
    private HeapTest() {
    }

    public static void main(String[] args) {
        classes();
        fewest();
        clean();
        round();
        trips();
        worth();
        blend();
        pairs();
        Check.end();
    }

    private static void classes() {
        DustYard yard = Check.made("sieve 4;sieve 2;sieve 4;sieve 6;heap 1 1;heap 2 10;heap 3 100;heap 4 200;heap 5 400;heap 6 800", null);
        Check.is("no sieve", yard.classes(0), 1);
        Check.is("one", yard.classes(1), 2);
        Check.is("two of one mesh", yard.classes(5), 2);
        Check.is("all", yard.classes(15), 4);
        Check.is("mesh 6 parts 6 from 5", yard.classes(8), 2);
        Check.is("bits of no sieve", yard.classes(-16), 1);
        Check.is("bits of no sieve, too", yard.classes(-1), 4);
        int[][] runs = {{16, 16, 16, 16, 16, 16}, {13, 13, 13, 46, 46, 46}, {11, 26, 26, 26, 26, 26}, {15, 15, 15, 15, 15, 66},
            {11, 23, 23, 45, 45, 66}};
        int[][] held = {{1511, 1511, 1511, 1511, 1511, 1511}, {111, 111, 111, 1400, 1400, 1400}, {1, 1510, 1510, 1510, 1510, 1510},
            {711, 711, 711, 711, 711, 800}, {1, 110, 110, 600, 600, 800}};
        int[] sets = {0, 1, 2, 8, 15};
        for (int i = 0; i < sets.length; i++) {
            for (int grain = 1; grain <= 6; grain++) {
                Check.is("classOf(" + sets[i] + ", " + grain + ")", yard.classOf(sets[i], grain), runs[i][grain - 1]);
                Check.is("with other bits", yard.classOf(sets[i] | 0x7ffffff0, grain), runs[i][grain - 1]);
                Check.is("held(" + sets[i] + ", " + grain + ")", yard.held(sets[i], grain), held[i][grain - 1]);
            }
        }
        for (int grain : new int[] {0, 7, -1}) {
            Check.refuses(yard, "classOf " + grain, IndexOutOfBoundsException.class, () -> yard.classOf(0, grain));
            Check.refuses(yard, "held " + grain, IndexOutOfBoundsException.class, () -> yard.held(0, grain));
        }
    }

    private static void fewest() {
        DustYard yard = Check.made("sieve 5;sieve 3;sieve 3;sieve 5", null);
        Check.is("without a contract", yard.fewest(), 0);
        yard.take(1, 6, 1, 1);
        Check.is("all grains are whole runs", yard.fewest(), 0);
        yard.take(3, 6, 1, 1);
        Check.is("the first of mesh 3", yard.fewest(), 0b0010);
        yard.take(1, 4, 1, 1);
        Check.is("the first of each", yard.fewest(), 0b0011);
        yard.take(3, 4, 1, 1);
        Check.is("no more", yard.fewest(), 0b0011);
        yard.take(2, 2, 1, 1);
        Check.is("none parts 1 from 2", yard.fewest(), -1);
        yard.drop(4);
        Check.is("OPEN ones alone", yard.fewest(), 0b0011);
        DustYard last = Check.made("sieve 6;contract 6 to 6 many 1 pays 1", null);
        Check.is("the coarsest", last.fewest(), 1);
    }

    private static void clean() {
        DustYard yard = Check.made("sieve 3;sieve 5;contract 3 to 4 many 1 pays 1;contract 2 to 4 many 1 pays 1;contract 6 to 6 many 1 pays 1;"
                + "heap 1 1;heap 2 2;heap 3 3;heap 4 4", null);
        Check.is("no sieve", yard.clean(0, 0), 70);
        Check.is("mesh 3", yard.clean(0, 1), 100);
        Check.is("mesh 5", yard.clean(0, 2), 70);
        Check.is("1 is with 2", yard.clean(1, 3), 90);
        Check.is("bits of no sieve", yard.clean(1, -4), 90);
        Check.is("nothing in these", yard.clean(2, 2), 100);
        Check.is("nothing of its grains", yard.clean(2, 0), 0);
        yard.drop(0);
        Check.is("OPEN or not", yard.clean(0, 0), 70);
        DustYard thirds = Check.made("contract 1 to 1 many 1 pays 1;heap 1 2;heap 2 1", null);
        Check.is("rounded down", thirds.clean(0, 0), 66);
        Check.refuses(yard, "no contract", IndexOutOfBoundsException.class, () -> yard.clean(3, 0));
        Check.refuses(yard, "NONE", IndexOutOfBoundsException.class, () -> yard.clean(-1, 0));
    }

    private static int round(DustYard yard, int... streets) {
        Check.tell(yard, streets);
        return yard.round();
    }

    private static void round() {
        DustYard yard = Check.made("street at 9 0 mix 000000;street at 0 9 mix 000000;street at 9 9 mix 000000;street at 5 5 mix 000000;"
                + "street at 1 0 mix 000000;street at 4 6 mix 000000;street at 6 4 mix 000000", null);
        Check.is("none", round(yard), 0);
        Check.is("one", round(yard, 3), 20);
        Check.is("one twice", round(yard, 3, 3), 20);
        Check.is("in any order", round(yard, 0, 1, 2), 36);
        Check.is("in any order", round(yard, 2, 1, 0), 36);
        Check.is("on the way", round(yard, 0, 4), 18);
        Check.is("six", round(yard, 0, 1, 2, 3, 4, 5), 44);
        Check.is("six of one", round(yard, 6, 6, 6, 6, 6, 6), 20);
        Check.is("across", round(yard, 5, 6), 24);
        int[][] wrong = {{7}, {0, 255}, {0, 0, 0, 0, 0, 0, 0}, {0, 1, 2, 3, 4, 5, 6}};
        for (int[] streets : wrong) {
            Check.tell(yard, streets);
            Check.refuses(yard, "not that", IllegalArgumentException.class, yard::round);
            Check.is("used up", yard.end(1), false);
        }
        Check.is("used up, too", round(yard, 3) + (yard.end(1) ? 1 : 0), 20);
        DustYard empty = new DustYard();
        Check.is("of no streets", round(empty), 0);
        Check.tell(empty, 0);
        Check.refuses(empty, "no street", IllegalArgumentException.class, empty::round);
    }

    private static void trips() {
        DustYard yard = Check.made("street at 4 0 mix 000000 waits 1;street at 0 4 mix 000000 waits 1;street at 4 4 mix 000000 waits 1;"
                + "street at 0 1 mix 000000 waits 1;street at 9 9 mix 000000", null);
        Check.is("one round of 16", yard.trips(16), 1);
        Check.is("a round of 15 does not", yard.trips(15), -1);
        Check.is("99", yard.trips(99), 1);
        DustYard cross = Check.made("street at 4 0 mix 000000 waits 1;street at 0 4 mix 000000 waits 1;street at 2 2 mix 000000 waits 1;"
                + "street at 0 1 mix 000000 waits 1;street at 1 0 mix 000000 waits 1", null);
        Check.is("three of 8", cross.trips(8), 3);
        Check.is("one of 16", cross.trips(16), 1);
        Check.is("two of 12", cross.trips(12), 2);
        Check.is("none of 7", cross.trips(7), -1);
        Check.is("0 to go", cross.trips(0), -1);
        DustYard star = Check.made("street at 9 0 mix 000000 waits 1;street at 0 9 mix 000000 waits 2;street at 5 4 mix 000000 waits 3", null);
        Check.is("each alone", star.trips(18), 3);
        DustYard none = Check.made("street at 9 0 mix 000000", null);
        Check.is("without WAITS", none.trips(0), 0);
        DustYard here = Check.made("street at 0 0 mix 000000 waits 1;street at 0 0 mix 000000 waits 1", null);
        Check.is("at the yard", here.trips(0), 1);
        Check.refuses(yard, "-1", IllegalArgumentException.class, () -> yard.trips(-1));
        Check.refuses(yard, "100", IllegalArgumentException.class, () -> yard.trips(100));
    }

    private static void worth() {
        DustYard yard = Check.made("contract 1 to 2 many 5 pays 4;contract 2 to 3 many 5 pays 4;contract 1 to 3 many 5 pays 5;heap 1 4;heap 2 3;heap 3 4", null);
        // Eleven grains are enough for two: any two but for what lies where; 25 and 20.
        Check.is("WORTH", yard.worth(), 45);
        Check.is("SERVES", yard.serves(), 0b101);
        yard.drop(2);
        Check.is("the others", yard.worth(), 40);
        Check.is("both", yard.serves(), 0b011);
        DustYard apart = Check.made("contract 1 to 2 many 6 pays 1;contract 2 to 3 many 6 pays 1;heap 1 9;heap 2 2;heap 3 3", null);
        Check.is("14 are enough, but not of these", apart.worth(), 6);
        Check.is("the first", apart.serves(), 1);
        DustYard fewer = Check.made("contract 1 to 1 many 3 pays 1;contract 1 to 1 many 3 pays 1;contract 1 to 1 many 6 pays 1;"
                + "contract 1 to 1 many 1 pays 0;heap 1 7", null);
        Check.is("WORTH", fewer.worth(), 6);
        Check.is("of the fewest", fewer.serves(), 0b100);
        DustYard nothing = Check.made("contract 1 to 1 many 3 pays 0;heap 1 7", null);
        Check.is("WORTH 0", nothing.worth(), 0);
        Check.is("none", nothing.serves(), 0);
        DustYard all = Check.made("contract 1 to 6 many 9 pays 9;contract 6 to 6 many 1 pays 1;heap 6 10", null);
        Check.is("all", all.worth(), 82);
        Check.is("all", all.serves(), 3);
        DustYard first = Check.made("contract 6 to 6 many 5 pays 3;contract 5 to 6 many 3 pays 2;heap 5 9;heap 6 3", null);
        Check.is("told first", first.serves(), 2);
        Check.is("too few of the coarsest", first.worth(), 6);
        DustYard three = Check.made("contract 2 to 3 many 4 pays 1;contract 3 to 4 many 4 pays 1;contract 2 to 4 many 4 pays 1;"
                + "heap 1 99;heap 2 4;heap 3 4;heap 4 3;heap 5 99", null);
        Check.is("a run of three has too few", three.worth(), 8);
        Check.is("the least as bits", three.serves(), 0b011);
        Check.is("nothing is filled", three.open(false), 0b111);
    }

    private static void blend() {
        DustYard yard = Check.made("street at 1 1 mix 910000;street at 1 1 mix 091000;street at 1 1 mix 000000;street at 1 1 mix 110000", null);
        Check.is("0 of a grain", yard.blend(0, 1, 6, 0), 1);
        Check.is("the other one alone", yard.blend(0, 1, 2, 90), 1);
        Check.is("the first one alone", yard.blend(0, 1, 1, 90), 10);
        Check.is("none", yard.blend(0, 1, 1, 91), -1);
        Check.is("one each", yard.blend(0, 3, 1, 80), 10);
        Check.is("two thirds", yard.blend(3, 0, 1, 83), 1);
        Check.is("something must be in these", yard.blend(2, 3, 1, 0), 1);
        Check.is("something must be in these", yard.blend(3, 2, 1, 0), 10);
        Check.is("loads of nothing", yard.blend(3, 2, 1, 50), 10);
        Check.is("51 of 50", yard.blend(3, 2, 1, 51), -1);
        DustYard mixed = Check.made("street at 1 1 mix 100000;street at 1 1 mix 000009;street at 1 1 mix 000000", null);
        Check.is("9 and 1 of the other one", mixed.blend(1, 0, 1, 50), 1);
        Check.is("all", mixed.blend(0, 1, 1, 100), 10);
        DustYard both = Check.made("street at 1 1 mix 900000;street at 1 1 mix 000000", null);
        both.lay(1, 2, 9);
        Check.is("half", both.blend(0, 1, 1, 50), 10);
        Check.is("none of 1", both.blend(0, 1, 3, 1), -1);
        DustYard sixths = Check.made("street at 1 1 mix 510000;street at 1 1 mix 180000", null);
        Check.is("five sixths", sixths.blend(0, 1, 1, 83), 10);
        Check.is("not more", sixths.blend(0, 1, 1, 84), -1);
        DustYard empty = Check.made("street at 1 1 mix 000000;street at 1 1 mix 000000", null);
        Check.is("nothing in these", empty.blend(0, 1, 1, 0), -1);
        Check.refuses(yard, "both are one", IllegalArgumentException.class, () -> yard.blend(1, 1, 1, 1));
        Check.refuses(yard, "P 101", IllegalArgumentException.class, () -> yard.blend(0, 1, 1, 101));
        Check.refuses(yard, "P -1", IllegalArgumentException.class, () -> yard.blend(0, 1, 1, -1));
        Check.refuses(yard, "no street", IndexOutOfBoundsException.class, () -> yard.blend(4, 4, 1, 101));
        Check.refuses(yard, "no first street", IndexOutOfBoundsException.class, () -> yard.blend(4, 0, 1, 1));
        Check.refuses(yard, "no other street", IndexOutOfBoundsException.class, () -> yard.blend(0, -1, 1, 101));
        Check.refuses(yard, "grain 0", IndexOutOfBoundsException.class, () -> yard.blend(0, 0, 0, 1));
        Check.refuses(yard, "grain 7", IndexOutOfBoundsException.class, () -> yard.blend(0, 1, 7, 1));
    }

    private static void pairs() {
        DustYard yard = Check.made("contract 1 to 2 many 9 pays 3;contract 2 to 3 many 1 pays 5;contract 3 to 4 many 1 pays 4;"
                + "contract 4 to 5 many 1 pays 2;contract 6 to 6 many 1 pays 9", null);
        Check.is("how much", yard.pairs(-1), 14);
        int[] due = {1, 0, 3, 2, -1};
        for (int contract = 0; contract < 5; contract++) {
            Check.is("with which " + contract, yard.pairs(contract), due[contract]);
        }
        yard.drop(3);
        Check.is("how much", yard.pairs(-1), 9);
        Check.is("the least way", yard.pairs(0), -1);
        Check.is("1 is with 2", yard.pairs(1), 2);
        Check.is("2 is with 1", yard.pairs(2), 1);
        Check.is("not OPEN", yard.pairs(3), -1);
        DustYard alike = Check.made("contract 1 to 6 many 1 pays 1;contract 1 to 6 many 1 pays 1;contract 1 to 6 many 1 pays 1", null);
        Check.is("one is left", alike.pairs(-1), 2);
        Check.is("none is the least", alike.pairs(0), -1);
        Check.is("then the others", alike.pairs(1), 2);
        DustYard touch = Check.made("contract 3 to 4 many 1 pays 2;contract 1 to 3 many 1 pays 1;contract 5 to 6 many 1 pays 9", null);
        Check.is("a grain in common", touch.pairs(-1), 3);
        Check.is("0 with 1", touch.pairs(0), 1);
        DustYard nothing = Check.made("contract 1 to 6 many 1 pays 0;contract 1 to 6 many 1 pays 0", null);
        Check.is("for nothing", nothing.pairs(-1), 0);
        Check.is("none", nothing.pairs(0), -1);
        DustYard four = Check.made("contract 1 to 6 many 1 pays 1;contract 1 to 6 many 1 pays 1;contract 1 to 6 many 1 pays 1;"
                + "contract 1 to 6 many 1 pays 1", null);
        Check.is("all four", four.pairs(-1), 4);
        Check.is("0 with 1", four.pairs(0), 1);
        Check.is("2 with 3", four.pairs(3), 2);
        Check.refuses(yard, "no contract", IndexOutOfBoundsException.class, () -> yard.pairs(5));
        Check.refuses(yard, "-2", IndexOutOfBoundsException.class, () -> yard.pairs(-2));
    }
}
