/** Promises 14 to 22: DAYS and the other ACTS, and what they refuse. */
public final class ActsTest {
    private ActsTest() {
    }

    public static void main(String[] args) {
        binsFill();
        cartsGoOut();
        tolls();
        firesAndRats();
        contractsAreFilled();
        manyDays();
        tipping();
        buying();
        taking();
        dropping();
        hiring();
        laying();
        dousing();
        filling();
        Check.end();
    }

    private static void binsFill() {
        DustYard yard = Check.made("street at 1 1 mix 000000;street at 1 1 mix 000000 waits 98;street at 9 9 mix 000000 waits 50",
                "more 4 if street<2;less 9 if far;more 2 if waits>98");
        Check.is("days", yard.days(1), 0);
        Check.is("WAITS", yard.street(0, 2), 5);
        Check.is("99 at most", yard.street(1, 2), 99);
        Check.is("FILLS 0", yard.street(2, 2), 50);
        Check.is("FILLS now", yard.street(1, 4), 7);
        Check.is("DAY", yard.count(9), 1);
        yard.days(2);
        Check.is("WAITS", yard.street(0, 2), 15);
        Check.is("DAY", yard.count(9), 3);
        for (int n : new int[] {0, -1, 61}) {
            Check.refuses(yard, "days " + n, IllegalArgumentException.class, () -> yard.days(n));
        }
    }

    private static void cartsGoOut() {
        DustYard yard = Check.made("street at 5 0 mix 123456 waits 8;street at 0 5 mix 900001 waits 8;street at 6 0 mix 999999 waits 99;"
                + "cart hold 3 goes 10;cart hold 9 goes 10;cart hold 1 goes 9", "less 1");
        yard.days(1);
        // The first cart goes to the least of two as full, the next one to the other one, the last one reaches none.
        Check.is("WAITS of 0", yard.street(0, 2), 5);
        Check.is("WAITS of 1", yard.street(1, 2), 0);
        Check.is("WAITS of 2", yard.street(2, 2), 99);
        int[] heap = {0, 3 + 72, 6, 9, 12, 15, 18 + 8};
        for (int grain = 1; grain <= 6; grain++) {
            Check.is("heap " + grain, yard.heap(grain), heap[grain]);
        }
        Check.is("rows", yard.count(11), 2);
        int[] first = {0, 0, 0, 0, 3};
        int[] second = {0, 1, 0, 1, 8};
        for (int what = 0; what < 5; what++) {
            Check.is("the first row " + what, yard.log(1, what), first[what]);
            Check.is("the second row " + what, yard.log(0, what), second[what]);
        }
        yard.days(1);
        Check.is("both go to the one that is left", yard.street(0, 2), 0);
        Check.is("loads of the second", yard.log(0, 4), 2);
        yard.days(1);
        Check.is("none goes where nothing waits", yard.count(11), 4);
        DustYard full = Check.made("street at 0 0 mix 900000 waits 99;cart hold 9 goes 1;cart hold 9 goes 1;cart hold 9 goes 1;heap 1 999",
                "more 99");
        full.days(60);
        Check.is("9999 at most", full.heap(1), 9999);
    }

    private static void tolls() {
        DustYard yard = Check.made("street at 1 0 mix 100000 waits 50;street at 2 0 mix 010000 waits 40;till 7;cart hold 1 goes 9;"
                + "cart hold 1 goes 9;cart hold 1 goes 9", "less 1;toll 5 if street<1;toll 2 if street>0");
        yard.days(1);
        // 7 pays for 5 and 2; nothing is left for the third.
        Check.is("TILL", yard.count(8), 0);
        Check.is("WAITS of 0", yard.street(0, 2), 49);
        Check.is("WAITS of 1", yard.street(1, 2), 39);
        Check.is("rows", yard.count(11), 2);
        DustYard byTill = Check.made("street at 1 0 mix 100000 waits 50;till 4;cart hold 1 goes 9;cart hold 1 goes 9;cart hold 1 goes 9",
                "less 1;toll 3 if till>2;toll 1 if till<2");
        byTill.days(1);
        Check.is("TOLL by TILL as it is then", byTill.count(8), 0);
        Check.is("the third goes for nothing of it", byTill.street(0, 2), 48);
        DustYard byWaits = Check.made("street at 1 0 mix 100000 waits 20;till 9;cart hold 1 goes 9;cart hold 1 goes 9", "less 1;toll 8 if full");
        byWaits.days(1);
        Check.is("TOLL by WAITS as they are then", byWaits.count(8), 1);
        Check.is("both went", byWaits.street(0, 2), 18);
        DustYard first = Check.made("street at 1 0 mix 100000 waits 19;till 9;cart hold 1 goes 9", "toll 8 if full");
        first.days(1);
        Check.is("bins fill ahead of the carts", first.count(8), 1);
    }

    /** Of SEED 1 the draws modulo 100 are 38, 58, then 13, 15. */
    private static void firesAndRats() {
        String heap = "heap 3 9;heap 4 9;heap 5 7;heap 6 1;";
        DustYard none = Check.made(heap + "fire 38;rats 58;smoke", null);
        none.days(1);
        Check.is("no SMOKE", none.count(10), 0);
        Check.is("GRAIN 4", none.heap(4), 9);
        Check.is("GRAIN 5", none.heap(5), 7);
        none.days(1);
        Check.is("SMOKE on the next", none.count(10), 1);
        Check.is("GRAIN 4 halved", none.heap(4), 4);
        DustYard fire = Check.made(heap + "fire 39;rats 58", null);
        fire.days(1);
        Check.is("SMOKE", fire.count(10), 1);
        Check.is("GRAIN 3", fire.heap(3), 9);
        Check.is("GRAIN 4", fire.heap(4), 9);
        Check.is("GRAIN 5", fire.heap(5), 3);
        Check.is("GRAIN 6", fire.heap(6), 0);
        DustYard second = Check.made(heap + "fire 13;rats 15", null);
        second.days(2);
        Check.is("13 is not below 13", second.count(10), 0);
        Check.is("15 is not below 15", second.heap(4), 9);
        DustYard rats = Check.made(heap + "fire 0;rats 59", null);
        rats.days(1);
        Check.is("no SMOKE", rats.count(10), 0);
        Check.is("GRAIN 4", rats.heap(4), 4);
        Check.is("GRAIN 5", rats.heap(5), 7);
        Check.is("SEED after two draws", rats.seed(3), -1770082073);
        DustYard draws = new DustYard();
        draws.days(1);
        Check.is("there are draws without fires and rats", draws.seed(1), -1770082073);
        DustYard order = Check.made("street at 0 0 mix 000002 waits 9;cart hold 9 goes 9;fire 100;contract 6 to 6 many 10 pays 1", "less 1");
        order.days(1);
        Check.is("fires come behind carts, ahead of contracts", order.count(8), 0);
        Check.is("heap", order.heap(6), 9);
    }

    private static void contractsAreFilled() {
        DustYard yard = Check.made("contract 2 to 4 many 10 pays 3;contract 1 to 6 many 5 pays 2;contract 4 to 6 many 3 pays 9;"
                + "contract 3 to 3 many 1 pays 1;heap 1 4;heap 2 5;heap 3 4;heap 4 3;heap 6 1;day 77", null);
        yard.drop(3);
        Check.is("how many", yard.days(1), 2);
        // From 4 down: 3, 4, 3 of grain 2; then from 6 down: 1, 2 of grain 2, 2 of grain 1.
        int[] heap = {0, 2, 0, 0, 0, 0, 0};
        for (int grain = 1; grain <= 6; grain++) {
            Check.is("heap " + grain, yard.heap(grain), heap[grain]);
        }
        Check.is("TILL", yard.count(8), 40);
        Check.is("OPEN", yard.open(false), 0b0100);
        int[] row = {77, 1, 1, -1, 5};
        for (int what = 0; what < 5; what++) {
            Check.is("row " + what, yard.log(0, what), row[what]);
        }
        Check.is("the one before", yard.log(1, 1), 0);
        Check.is("DAY", yard.count(9), 78);
        Check.is("none is left", yard.days(60), 0);
        DustYard rich = Check.made("till 999;heap 1 999;contract 1 to 1 many 99 pays 9", null);
        for (int i = 1; i < 6; i++) {
            rich.take(1, 1, 99, 9);
        }
        Check.is("six", rich.days(1), 6);
        Check.is("TILL", rich.count(8), 999 + 6 * 891);
        Check.is("heap", rich.heap(1), 999 - 6 * 99);
    }

    private static void manyDays() {
        DustYard yard = Check.made("day 999;street at 0 0 mix 100000;cart hold 1 goes 1;contract 1 to 1 many 2 pays 1;contract 1 to 1 many 1 pays 1",
                null);
        Check.is("filled on these", yard.days(5), 2);
        Check.is("the first on the first", yard.log(yard.count(11) - 2, 0), 999);
        for (int i = 0; i < 149; i++) {
            yard.days(60);
        }
        yard.days(54);
        Check.is("DAY", yard.count(9), 9998);
        yard.days(1);
        Check.is("DAY", yard.count(9), 9999);
        yard.days(1);
        Check.is("9999 at most", yard.count(9), 9999);
    }

    private static void tipping() {
        DustYard yard = Check.made("street at 9 9 mix 120456 waits 2;heap 1 5", "toll 99");
        Check.is("tip", yard.tip(0), 1);
        int[] heap = {0, 6, 2, 0, 4, 5, 6};
        for (int grain = 1; grain <= 6; grain++) {
            Check.is("heap " + grain, yard.heap(grain), heap[grain]);
        }
        Check.is("tip", yard.tip(0), 0);
        Check.is("no row", yard.count(11), 0);
        Check.is("two acts", yard.count(12), 2);
        Check.refuses(yard, "none waits", IllegalStateException.class, () -> yard.tip(0));
        Check.refuses(yard, "no street", IndexOutOfBoundsException.class, () -> yard.tip(1));
        Check.refuses(yard, "the yard", IndexOutOfBoundsException.class, () -> yard.tip(-1));
        DustYard full = Check.made("street at 0 0 mix 900000 waits 99;cart hold 9 goes 1;cart hold 9 goes 1;cart hold 9 goes 1", "more 98");
        full.days(60);
        Check.is("9999 at most", full.heap(1), 9999);
        full.tip(0);
        Check.is("by hand, too", full.heap(1), 9999);
    }

    private static void buying() {
        DustYard yard = Check.made("till 14;sieve 3;sieve 3", null);
        Check.refuses(yard, "mesh 1", IllegalArgumentException.class, () -> yard.buy(1));
        Check.refuses(yard, "mesh 7", IllegalArgumentException.class, () -> yard.buy(7));
        Check.is("its number", yard.buy(6), 2);
        Check.is("TILL", yard.count(8), 9);
        Check.is("MESH", yard.mesh(2), 6);
        Check.is("its number", yard.buy(2), 3);
        Check.is("TILL", yard.count(8), 4);
        Check.refuses(yard, "too little, and there are 4", IllegalStateException.class, () -> yard.buy(2));
        Check.refuses(yard, "the mesh comes first", IllegalArgumentException.class, () -> yard.buy(0));
        DustYard poor = Check.made("till 4", null);
        Check.refuses(poor, "too little", IllegalStateException.class, () -> poor.buy(2));
        DustYard full = Check.made("till 99;sieve 3;sieve 3;sieve 3;sieve 3", null);
        Check.refuses(full, "there are 4", IllegalStateException.class, () -> full.buy(2));
        DustYard just = Check.made("till 5", null);
        Check.is("just 5", just.buy(2), 0);
        Check.is("TILL", just.count(8), 0);
    }

    private static void taking() {
        DustYard yard = new DustYard();
        int[][] none = {{0, 1, 1, 1}, {1, 0, 1, 1}, {3, 2, 1, 1}, {1, 7, 1, 1}, {7, 7, 1, 1}, {1, 1, 0, 1}, {1, 1, 100, 1},
            {1, 1, 1, -1}, {1, 1, 1, 10}, {-1, 1, 1, 1}};
        for (int[] c : none) {
            Check.refuses(yard, "take " + c[0] + c[1] + c[2] + c[3], IllegalArgumentException.class, () -> yard.take(c[0], c[1], c[2], c[3]));
        }
        Check.is("its number", yard.take(1, 6, 99, 9), 0);
        Check.is("its number", yard.take(6, 6, 1, 0), 1);
        int[] due = {6, 6, 1, 0, 1};
        for (int what = 0; what < 5; what++) {
            Check.is("contract " + what, yard.contract(1, what), due[what]);
        }
        yard.drop(0);
        for (int i = 2; i < 6; i++) {
            Check.is("its number", yard.take(1, 1, 1, 1), i);
        }
        Check.refuses(yard, "there are 6, dropped or not", IllegalStateException.class, () -> yard.take(1, 1, 1, 1));
        Check.refuses(yard, "its numbers come first", IllegalArgumentException.class, () -> yard.take(1, 1, 0, 1));
    }

    private static void dropping() {
        DustYard yard = Check.made("contract 1 to 1 many 1 pays 1;contract 1 to 1 many 1 pays 1;heap 1 5", null);
        yard.drop(1);
        Check.is("not OPEN", yard.contract(1, 4), 0);
        Check.is("it stays", yard.count(3), 2);
        Check.is("the other one", yard.contract(0, 4), 1);
        Check.is("an act", yard.count(12), 1);
        Check.refusesAct(yard, "dropped", IllegalStateException.class, () -> yard.drop(1));
        Check.is("only the other one is filled", yard.days(1), 1);
        Check.refusesAct(yard, "filled", IllegalStateException.class, () -> yard.drop(0));
        Check.refusesAct(yard, "none", IndexOutOfBoundsException.class, () -> yard.drop(2));
        Check.refusesAct(yard, "NONE", IndexOutOfBoundsException.class, () -> yard.drop(-1));
        Check.is("no row of dropping", yard.count(11), 1);
    }

    private static void hiring() {
        DustYard yard = new DustYard();
        int[][] none = {{0, 1}, {10, 1}, {1, 0}, {1, 100}, {-1, -1}};
        for (int[] c : none) {
            Check.refuses(yard, "hire " + c[0] + " " + c[1], IllegalArgumentException.class, () -> yard.hire(c[0], c[1]));
        }
        Check.is("its number", yard.hire(9, 99), 0);
        Check.is("its number", yard.hire(1, 1), 1);
        Check.is("HOLD", yard.cart(0, 0), 9);
        Check.is("GOES", yard.cart(0, 1), 99);
        Check.is("its number", yard.hire(5, 50), 2);
        Check.is("it is for nothing", yard.count(8), 0);
        Check.is("acts", yard.count(12), 3);
        Check.refuses(yard, "there are 3", IllegalStateException.class, () -> yard.hire(1, 1));
        Check.refuses(yard, "its numbers come first", IllegalArgumentException.class, () -> yard.hire(1, 0));
    }

    private static void laying() {
        DustYard yard = Check.made("street at 9 9 mix 120456 waits 2;street at 9 9 mix 111111", null);
        Check.is("it had", yard.lay(0, 2, 9), 2);
        Check.is("it has", yard.mix(0, 2), 9);
        Check.is("a load", yard.street(0, 3), 25);
        Check.is("it had", yard.lay(0, 3, 0), 0);
        Check.is("an act, though nothing is otherwise", yard.count(12), 2);
        Check.is("the other street", yard.street(1, 3), 6);
        Check.refuses(yard, "10", IllegalArgumentException.class, () -> yard.lay(0, 1, 10));
        Check.refuses(yard, "-1", IllegalArgumentException.class, () -> yard.lay(0, 1, -1));
        Check.refuses(yard, "no street", IndexOutOfBoundsException.class, () -> yard.lay(2, 1, 10));
        Check.refuses(yard, "grain 0", IndexOutOfBoundsException.class, () -> yard.lay(0, 0, 10));
        Check.refuses(yard, "grain 7", IndexOutOfBoundsException.class, () -> yard.lay(0, 7, 1));
    }

    private static void dousing() {
        DustYard yard = Check.made("smoke", null);
        Check.is("there was", yard.douse(), true);
        Check.is("none now", yard.count(10), 0);
        Check.is("there was none", yard.douse(), false);
        Check.is("both are acts", yard.count(12), 2);
    }

    private static void filling() {
        DustYard yard = Check.made("contract 2 to 4 many 10 pays 3;contract 1 to 1 many 4 pays 9;contract 1 to 1 many 1 pays 9;"
                + "heap 1 3;heap 2 5;heap 3 4;heap 4 3;till 20;day 9", null);
        Check.is("TILL then", yard.fill(0), 50);
        int[] heap = {0, 3, 2, 0, 0, 0, 0};
        for (int grain = 1; grain <= 6; grain++) {
            Check.is("heap " + grain, yard.heap(grain), heap[grain]);
        }
        int[] row = {9, 0, 2, -1, 10};
        for (int what = 0; what < 5; what++) {
            Check.is("row " + what, yard.log(0, what), row[what]);
        }
        Check.is("not OPEN", yard.contract(0, 4), 0);
        Check.refuses(yard, "filled", IllegalStateException.class, () -> yard.fill(0));
        Check.refuses(yard, "too few", IllegalStateException.class, () -> yard.fill(1));
        Check.refuses(yard, "none", IndexOutOfBoundsException.class, () -> yard.fill(3));
        Check.refuses(yard, "NONE", IndexOutOfBoundsException.class, () -> yard.fill(-1));
        yard.drop(2);
        Check.refuses(yard, "dropped", IllegalStateException.class, () -> yard.fill(2));
    }
}
