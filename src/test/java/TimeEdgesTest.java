import java.util.NoSuchElementException;

/** Promises 48 to 56, and what can be seen of refused calls: each sentence that names a boundary case has a test of its own. */
public final class TimeEdgesTest {
    private static final Class<IndexOutOfBoundsException> NO_SUCH_THING = IndexOutOfBoundsException.class;
    private static final Class<IllegalArgumentException> NO_SUCH_NUMBER = IllegalArgumentException.class;
    private static final Class<NoSuchElementException> NO_SUCH_WHAT = NoSuchElementException.class;
    private static final int[] NO_DAYS = {-1, 61, Integer.MIN_VALUE, Integer.MAX_VALUE};
    private static final int[] FAR_OFF = {Integer.MIN_VALUE, -2, Integer.MAX_VALUE};

    private TimeEdgesTest() {
    }

    public static void main(String[] args) {
        aheadDays();
        aheadWithoutDraws();
        aheadRefused();
        trialDays();
        trialRefused();
        spanDays();
        spanRefused();
        led();
        ledRefused();
        logLatest();
        logWithout();
        logRefused();
        seed();
        undoOfNone();
        undoTwelve();
        undoOfEachAct();
        undoOfOneCall();
        fullLogUndone();
        undoOfRefused();
        undoAllButFor();
        noneAreRemembered();
        imageOfNone();
        imageOfAll();
        imageIsOne();
        Check.end();
    }

    /** Something of all goes on in this one. */
    private static DustYard busy() {
        DustYard yard = Check.made("street at 1 0 mix 111111 waits 50;street at 0 2 mix 000222 waits 40;cart hold 2 goes 5;cart hold 3 goes 5;"
                + "fire 40;rats 40;contract 4 to 6 many 20 pays 2;contract 5 to 6 many 30 pays 3;contract 1 to 1 many 5 pays 1;till 9", "toll 1 if smoke");
        yard.seed(77);
        return yard;
    }

    private static int together(DustYard yard) {
        int all = 0;
        for (int grain = 1; grain <= 6; grain++) {
            all += yard.heap(grain);
        }
        return all;
    }

    // ---- DAYS that do not stay

    private static void aheadDays() {
        Check.sentence("AHEAD by N DAYS (0 to 60): WAITS of a STREET; what the HEAP has together (street NONE)");
        DustYard yard = Check.made("street at 1 0 mix 000000 waits 7;street at 1 0 mix 000000 waits 60;heap 1 999;heap 6 999", null);
        Check.is("by none", yard.ahead(0, 0), 7);
        Check.is("by one", yard.ahead(0, 1), 8);
        Check.is("by 60", yard.ahead(0, 60), 67);
        Check.is("99 at most", yard.ahead(1, 60), 99);
        Check.is("the HEAP by none", yard.ahead(-1, 0), 1998);
        Check.is("the HEAP by 60", yard.ahead(-1, 60), 1998);
        DustYard empty = new DustYard();
        Check.is("of an empty yard", empty.ahead(-1, 60), 0);
        DustYard full = Check.made("street at 0 0 mix 999999 waits 99;cart hold 9 goes 1;cart hold 9 goes 1;cart hold 9 goes 1", "more 98");
        Check.is("a full HEAP", full.ahead(-1, 60), 6 * 9999);
        Check.is("nothing stays", together(full), 0);
    }

    private static void aheadWithoutDraws() {
        Check.sentence("without (c) (SMOKE stays as it is, neither fires nor RATS; no DRAWS)");
        DustYard burning = Check.made("street at 0 0 mix 000000;fire 100;rats 100;heap 4 8;heap 5 8;heap 6 8", "more 5 if smoke");
        Check.is("no fire, no rats", burning.ahead(-1, 60), 24);
        Check.is("no SMOKE comes", burning.ahead(0, 2), 2);
        DustYard smoking = Check.made("street at 0 0 mix 000000;fire 0;smoke", "more 5 if smoke");
        Check.is("SMOKE stays", smoking.ahead(0, 2), 12);
        Check.is("no draws", smoking.seed(1), 1);
        Check.is("SMOKE is there yet", smoking.count(10), 1);
        DustYard deal = Check.made("contract 1 to 1 many 5 pays 1;heap 1 9", null);
        Check.is("CONTRACTS are FILLED on these", deal.ahead(-1, 1), 4);
        Check.is("but not for good", deal.open(false), 1);
        DustYard busy = busy();
        String before = Check.seen(busy);
        busy.ahead(0, 60);
        Check.same("nothing stays", Check.seen(busy), before);
    }

    private static void aheadRefused() {
        Check.sentence("48: IllegalArgumentException: N is none");
        DustYard yard = Check.made("street at 1 0 mix 111111 waits 7", null);
        for (int n : NO_DAYS) {
            Check.refuses(yard, "N " + n, NO_SUCH_NUMBER, () -> yard.ahead(0, n));
            Check.refuses(yard, "N " + n + " of the HEAP", NO_SUCH_NUMBER, () -> yard.ahead(-1, n));
            Check.refuses(yard, "told first", NO_SUCH_THING, () -> yard.ahead(1, n));
        }
        Check.sentence("48: IndexOutOfBoundsException: there is no such STREET");
        DustYard one = Check.made("street at 1 0 mix 111111 waits 7", null);
        Check.refuses(one, "1", NO_SUCH_THING, () -> one.ahead(1, 0));
        for (int far : FAR_OFF) {
            Check.refuses(one, "far off", NO_SUCH_THING, () -> one.ahead(far, 0));
        }
        DustYard none = new DustYard();
        Check.refuses(none, "0 of none", NO_SUCH_THING, () -> none.ahead(0, 0));
    }

    private static void trialDays() {
        Check.sentence("TRIAL of N DAYS (0 to 60) from now (draws, too; nothing stays): TILL then; what the HEAP has together then");
        for (int n : new int[] {0, 1, 2, 7, 59, 60}) {
            DustYard yard = busy();
            String before = Check.seen(yard);
            int till = yard.trial(n, false);
            int heap = yard.trial(n, true);
            Check.same("nothing stays of " + n, Check.seen(yard), before);
            if (n > 0) {
                yard.days(n);
            }
            Check.is("TILL by " + n, till, yard.count(8));
            Check.is("the HEAP by " + n, heap, together(yard));
        }
        Check.is("of an empty yard", new DustYard().trial(60, true) + new DustYard().trial(60, false), 0);
    }

    private static void trialRefused() {
        Check.sentence("49: IllegalArgumentException: N is none");
        for (int n : NO_DAYS) {
            DustYard yard = busy();
            Check.refuses(yard, "N " + n, NO_SUCH_NUMBER, () -> yard.trial(n, false));
            Check.refuses(yard, "N " + n + " of the HEAP", NO_SUCH_NUMBER, () -> yard.trial(n, true));
        }
    }

    private static void spanDays() {
        Check.sentence("SPAN: the least and the greatest TILL so from SEED 1, 2, .. 6");
        for (int n : new int[] {0, 1, 3, 12, 60}) {
            DustYard yard = busy();
            String before = Check.seen(yard);
            int least = Integer.MAX_VALUE;
            int most = Integer.MIN_VALUE;
            for (int seed = 1; seed <= 6; seed++) {
                DustYard other = busy();
                other.seed(seed);
                if (n > 0) {
                    other.days(n);
                }
                least = Math.min(least, other.count(8));
                most = Math.max(most, other.count(8));
            }
            Check.is("the least by " + n, yard.span(n, false), least);
            Check.is("the greatest by " + n, yard.span(n, true), most);
            Check.same("nothing stays of " + n, Check.seen(yard), before);
        }
        Check.is("of an empty yard", new DustYard().span(60, false), 0);
        Check.is("of an empty yard", new DustYard().span(60, true), 0);
        // The first two draws of SEED 1 to 6 modulo 100: 38 58, 8 17, 47 7, 17 66, 55 57, 26 15; of 0 they are 0 68, of 7 64 6.
        DustYard nought = Check.made("fire 8;heap 5 9;contract 5 to 5 many 9 pays 1", null);
        Check.is("a fire by SEED 0 alone, which is none", nought.span(1, false), 9);
        DustYard seven = Check.made("rats 7;heap 4 9;contract 4 to 4 many 9 pays 1", null);
        Check.is("rats by SEED 7 alone, which is none", seven.span(1, false), 9);
        DustYard first = Check.made("fire 20;rats 58;heap 4 6;heap 5 6;contract 4 to 5 many 12 pays 1", null);
        Check.is("neither comes by SEED 1 alone", first.span(1, true), 12);
        DustYard last = Check.made("fire 30;rats 16;heap 4 6;heap 5 6;contract 4 to 5 many 9 pays 1", null);
        Check.is("both come by SEED 6 alone", last.span(1, false), 0);
    }

    private static void spanRefused() {
        Check.sentence("50: IllegalArgumentException: N is none (0 to 60)");
        for (int n : NO_DAYS) {
            DustYard yard = busy();
            Check.refuses(yard, "N " + n, NO_SUCH_NUMBER, () -> yard.span(n, false));
            Check.refuses(yard, "N " + n, NO_SUCH_NUMBER, () -> yard.span(n, true));
        }
    }

    // ---- THE LOG

    private static void led() {
        Check.sentence("LED: how many rows (0) of THE LOG are of a STREET; the DAY of the latest (none)");
        DustYard yard = Check.made("street at 0 0 mix 100000 waits 3;street at 9 9 mix 100000 waits 99;cart hold 1 goes 1;contract 1 to 1 many 1 pays 1;"
                + "contract 1 to 1 many 1 pays 1", "less 1");
        Check.is("no rows", yard.led(0, false), 0);
        Check.is("no DAY", yard.led(0, true), -1);
        yard.tip(0);
        Check.is("tipped by hand: no row", yard.led(0, false), 0);
        yard.fill(0);
        Check.is("of a CONTRACT: no STREET", yard.led(0, false), 0);
        yard.days(1);
        Check.is("one row", yard.led(0, false), 1);
        Check.is("DAY 0 is a DAY", yard.led(0, true), 0);
        yard.days(5);
        Check.is("two rows", yard.led(0, false), 2);
        Check.is("the latest", yard.led(0, true), 1);
        Check.is("one to which none goes", yard.led(1, false), 0);
        Check.is("one to which none goes", yard.led(1, true), -1);
        DustYard full = Check.made("street at 0 0 mix 100000 waits 3;cart hold 1 goes 1", null);
        full.days(60);
        Check.is("60 rows", full.led(0, false), 60);
        full.days(1);
        Check.is("the latest 60 alone", full.led(0, false), 60);
        Check.is("their latest DAY", full.led(0, true), 60);
        DustYard lost = Check.made("street at 0 0 mix 100000 waits 99;street at 0 0 mix 100000 waits 98;cart hold 1 goes 1", "more 99 if street<1;less 1");
        lost.days(1);
        Check.is("the fullest", lost.led(0, false), 1);
        lost.lay(0, 1, 0);
        Check.addLaw(lost, "less 1;toll 1 if street<1");
        lost.days(59);
        Check.is("60 rows ago", lost.led(0, true), 0);
        Check.is("the others", lost.led(1, false), 59);
        lost.days(1);
        Check.is("61 rows ago", lost.led(0, true), -1);
        Check.is("61 rows ago", lost.led(0, false), 0);
    }

    private static void ledRefused() {
        Check.sentence("51: IndexOutOfBoundsException: there is no such STREET");
        DustYard yard = busy();
        Check.refuses(yard, "2", NO_SUCH_THING, () -> yard.led(2, false));
        Check.refuses(yard, "2", NO_SUCH_THING, () -> yard.led(2, true));
        Check.refuses(yard, "-1", NO_SUCH_THING, () -> yard.led(-1, false));
        Check.refuses(yard, "-1", NO_SUCH_THING, () -> yard.led(-1, true));
        DustYard none = new DustYard();
        Check.refuses(none, "0 of none", NO_SUCH_THING, () -> none.led(0, false));
        for (int far : FAR_OFF) {
            Check.refuses(none, "far off", NO_SUCH_THING, () -> none.led(far, true));
        }
    }

    private static void logLatest() {
        Check.sentence("THE LOG: in the order in which it came about, the latest 60");
        DustYard yard = Check.made("street at 0 0 mix 100000 waits 3;cart hold 1 goes 1", null);
        yard.days(59);
        Check.is("59 rows", yard.count(11), 59);
        Check.is("the oldest", yard.log(58, 0), 0);
        Check.is("60 ago", yard.log(59, 0), -2);
        yard.days(1);
        Check.is("60 rows", yard.count(11), 60);
        Check.is("the oldest", yard.log(59, 0), 0);
        Check.is("the latest", yard.log(0, 0), 59);
        yard.days(1);
        Check.is("60 rows yet", yard.count(11), 60);
        Check.is("the oldest now", yard.log(59, 0), 1);
        Check.is("the latest now", yard.log(0, 0), 60);
        Check.is("61 ago", yard.log(60, 0), -2);
        yard.take(1, 1, 9, 1);
        yard.fill(0);
        Check.is("a CONTRACT takes a row, too", yard.log(0, 2), 2);
        Check.is("the oldest now", yard.log(59, 0), 2);
        Check.is("the one before", yard.log(1, 0), 60);
        yard.days(60);
        Check.is("all anew", yard.log(59, 0), 61);
        Check.is("all anew", yard.log(0, 0), 120);
    }

    private static void logWithout() {
        Check.sentence("52: - 2 without");
        DustYard none = new DustYard();
        DustYard one = Check.made("contract 1 to 1 many 1 pays 1;heap 1 1", null);
        one.fill(0);
        for (int what = 0; what <= 4; what++) {
            Check.is("of none", none.log(0, what), -2);
            Check.is("-1 ago", one.log(-1, what), -2);
            Check.is("1 ago of one", one.log(1, what), -2);
            Check.is("the greatest int ago", one.log(Integer.MAX_VALUE, what), -2);
            Check.is("the least int ago", one.log(Integer.MIN_VALUE, what), -2);
        }
        Check.is("there is one", one.log(0, 4), 1);
        Check.sentence("52: 3 the STREET (NONE)");
        Check.is("of a CONTRACT", one.log(0, 3), -1);
    }

    private static void logRefused() {
        Check.sentence("52: NoSuchElementException: another what");
        DustYard one = Check.made("contract 1 to 1 many 1 pays 1;heap 1 1", null);
        one.fill(0);
        for (int what : new int[] {-1, 5, Integer.MIN_VALUE, Integer.MAX_VALUE}) {
            Check.refuses(one, "what " + what, NO_SUCH_WHAT, () -> one.log(0, what));
            Check.refuses(one, "what " + what + " of no row", NO_SUCH_WHAT, () -> one.log(1, what));
            Check.refuses(one, "what " + what + " of no row", NO_SUCH_WHAT, () -> one.log(-1, what));
        }
    }

    // ---- SEED, UNDONE, THE IMAGE

    private static void seed() {
        Check.sentence("53: SEED: what it was");
        DustYard yard = new DustYard();
        Check.is("1 at first", yard.seed(Integer.MAX_VALUE), 1);
        Check.is("the greatest", yard.seed(Integer.MIN_VALUE), Integer.MAX_VALUE);
        Check.is("the least", yard.seed(0), Integer.MIN_VALUE);
        Check.is("0", yard.seed(-1), 0);
        Check.is("-1", yard.seed(5), -1);
        Check.is("no act", yard.count(12), 0);
    }

    private static void undoOfNone() {
        Check.sentence("54: UNDONE: whether there was one");
        DustYard yard = busy();
        String before = Check.seen(yard);
        Check.is("none", yard.undo(), false);
        Check.same("nothing happens", Check.seen(yard), before);
        yard.days(1);
        Check.is("one", yard.undo(), true);
        Check.is("none is left", yard.undo(), false);
        Check.same("as ahead of it", Check.seen(yard), before);
        Check.is("of a new object", new DustYard().undo(), false);
    }

    private static void undoTwelve() {
        Check.sentence("UNDONE: the latest ACT not undone yet (12 are remembered ..)");
        DustYard yard = new DustYard();
        for (int act = 1; act <= 13; act++) {
            yard.days(act);
            Check.is("acts that can be UNDONE", yard.count(12), Math.min(12, act));
        }
        int day = yard.count(9);
        for (int act = 13; act >= 2; act--) {
            Check.is("undone", yard.undo(), true);
            day -= act;
            Check.is("DAY as ahead of it", yard.count(9), day);
            Check.is("acts that can be UNDONE", yard.count(12), act - 2);
        }
        Check.is("the first is not remembered", yard.undo(), false);
        Check.is("DAY", yard.count(9), 1);
        for (int act = 0; act < 12; act++) {
            yard.days(1);
        }
        for (int act = 0; act < 12; act++) {
            Check.is("12 again", yard.undo(), true);
        }
        Check.is("and no more", yard.undo(), false);
        Check.is("DAY", yard.count(9), 1);
    }

    private static void undoOfEachAct() {
        Check.sentence("ACTS: DAYS; a load is tipped by hand; a SIEVE is bought; a CONTRACT is taken, or dropped; a CART is hired; MIX .. is told; "
                + "SMOKE is put out; a CONTRACT is FILLED by hand");
        DustYard yard = Check.made("street at 1 0 mix 100000 waits 9;till 9;smoke;heap 1 9;contract 1 to 1 many 1 pays 9;contract 1 to 1 many 1 pays 9", null);
        Check.Act[] acts = {() -> yard.days(1), () -> yard.tip(0), () -> yard.buy(3), () -> yard.take(1, 1, 1, 1), () -> yard.drop(0),
            () -> yard.hire(1, 1), () -> yard.lay(0, 1, 5), yard::douse, () -> yard.fill(1)};
        String before = Check.seen(yard);
        for (int i = 0; i < acts.length; i++) {
            acts[i].run();
            Check.is("one ACT can be UNDONE: " + i, yard.count(12), 1);
            Check.is("undone: " + i, yard.undo(), true);
            Check.same("all is as ahead of it: " + i, Check.seen(yard), before);
        }
    }

    private static void undoOfOneCall() {
        Check.sentence("(.. DAYS of one call are one)");
        DustYard yard = busy();
        String before = Check.seen(yard);
        yard.days(60);
        Check.is("one", yard.count(12), 1);
        yard.undo();
        Check.same("all 60 are undone", Check.seen(yard), before);
    }

    private static void fullLogUndone() {
        Check.sentence("UNDONE: all is as ahead of it; THE IMAGE of all: a full LOG, too");
        DustYard yard = Check.made("street at 0 0 mix 100000 waits 3;cart hold 1 goes 1", null);
        yard.days(60);
        yard.days(7);
        yard.days(30);
        Check.is("undone", yard.undo(), true);
        Check.is("rows", yard.count(11), 60);
        Check.is("the latest", yard.log(0, 0), 66);
        Check.is("the one before", yard.log(1, 0), 65);
        Check.is("the oldest", yard.log(59, 0), 7);
        yard.image();
        yard.days(50);
        Check.is("back", yard.back(), true);
        Check.is("the latest", yard.log(0, 0), 66);
        Check.is("the oldest", yard.log(59, 0), 7);
        yard.days(1);
        Check.is("one more", yard.log(0, 0), 67);
        Check.is("the one before", yard.log(1, 0), 66);
        Check.is("the oldest", yard.log(59, 0), 8);
    }

    private static void undoOfRefused() {
        Check.sentence("a call that throws changes nothing but the TAPE, where it is used up");
        DustYard yard = Check.made("street at 1 0 mix 111111;contract 1 to 1 many 5 pays 1", null);
        Check.refuses(yard, "days", NO_SUCH_NUMBER, () -> yard.days(0));
        Check.refuses(yard, "tip", IllegalStateException.class, () -> yard.tip(0));
        Check.refuses(yard, "buy", IllegalStateException.class, () -> yard.buy(2));
        Check.refuses(yard, "take", NO_SUCH_NUMBER, () -> yard.take(0, 0, 0, 0));
        Check.refusesAct(yard, "drop", NO_SUCH_THING, () -> yard.drop(1));
        Check.refuses(yard, "hire", NO_SUCH_NUMBER, () -> yard.hire(0, 0));
        Check.refuses(yard, "lay", NO_SUCH_NUMBER, () -> yard.lay(0, 1, 10));
        Check.refuses(yard, "fill", IllegalStateException.class, () -> yard.fill(0));
        Check.is("none of these can be UNDONE", yard.undo(), false);
        Check.tell(yard, 1, 2, 3);
        Check.refuses(yard, "days", NO_SUCH_NUMBER, () -> yard.days(0));
        Check.is("the TAPE is not used up by these", yard.end(3), true);
        yard.image();
        yard.days(2);
        Check.refuses(yard, "days", NO_SUCH_NUMBER, () -> yard.days(0));
        Check.is("THE IMAGE is as it was", yard.back(), true);
        Check.is("DAY", yard.count(9), 0);
    }

    private static void undoAllButFor() {
        Check.sentence("all is as ahead of it (but for the TAPE, fault(), THE IMAGE)");
        DustYard yard = busy();
        String before = Check.seen(yard);
        yard.days(1);
        yard.image();
        yard.seed(5);
        Check.tell(yard, "fire 101");
        Check.refusesTape(yard, "a wrong text", NO_SUCH_NUMBER, yard::yard);
        Check.tell(yard, 1, 2, 3);
        Check.is("undone", yard.undo(), true);
        Check.same("as ahead of it", Check.seen(yard), before);
        Check.is("the TAPE stays", yard.end(4), false);
        Check.is("the TAPE stays", yard.end(3), true);
        Check.is("fault() stays", yard.fault(), 5);
        Check.is("THE IMAGE stays", yard.back(), true);
        Check.is("it was kept behind that DAY", yard.count(9), 1);
    }

    private static void noneAreRemembered() {
        Check.sentence("A text, going back: none are remembered");
        DustYard yard = busy();
        yard.days(1);
        yard.days(1);
        Check.addYard(yard, "");
        Check.is("a text of THE YARD, an empty one, too", yard.count(12), 0);
        Check.is("none", yard.undo(), false);
        yard.days(1);
        Check.addLaw(yard, "");
        Check.is("a text of THE LAW", yard.count(12), 0);
        Check.is("none", yard.undo(), false);
        yard.days(1);
        yard.image();
        Check.is("an image is no going back", yard.count(12), 1);
        Check.is("back", yard.back(), true);
        Check.is("going back", yard.count(12), 0);
        Check.is("none", yard.undo(), false);
        yard.days(1);
        Check.is("one more", yard.count(12), 1);
        Check.tell(yard, "?");
        Check.refusesTape(yard, "a wrong text forgets none", NO_SUCH_NUMBER, yard::yard);
        Check.tell(yard, "?");
        Check.refusesTape(yard, "a wrong law forgets none", NO_SUCH_NUMBER, yard::law);
        Check.is("one yet", yard.undo(), true);
    }

    private static void imageOfNone() {
        Check.sentence("56: false, and nothing happens, if none was kept");
        DustYard yard = busy();
        yard.days(3);
        Check.tell(yard, 1, 2, 3);
        String before = Check.seen(yard);
        Check.is("none was kept", yard.back(), false);
        Check.same("nothing happens", Check.seen(yard), before);
        Check.is("nor to the TAPE", yard.end(3), true);
        Check.is("acts are remembered yet", yard.undo(), true);
        Check.is("of a new object", new DustYard().back(), false);
    }

    private static void imageOfAll() {
        Check.sentence("THE IMAGE (one) of all may be kept, and gone back to (but for the TAPE, fault() and THE IMAGE itself)");
        DustYard yard = busy();
        yard.image();
        String kept = Check.seen(yard);
        Check.addYard(yard, "street at 2 0 mix 010000 waits 9;sieve 3;smoke;heap 3 9;cart hold 1 goes 1;contract 1 to 1 many 1 pays 1;fire 1;rats 1;till 1;day 1");
        Check.addLaw(yard, "more 9;toll 7 if far");
        yard.days(7);
        yard.drop(yard.take(1, 1, 1, 1));
        yard.lay(0, 1, 9);
        yard.seed(99);
        Check.tell(yard, "fire 101");
        Check.refusesTape(yard, "a wrong text", NO_SUCH_NUMBER, yard::yard);
        Check.tell(yard, 1, 2, 3);
        Check.is("back", yard.back(), true);
        Check.same("all of it", Check.seen(yard), kept);
        Check.is("the TAPE stays", yard.end(3), true);
        Check.is("fault() stays", yard.fault(), 5);
        yard.days(2);
        Check.is("THE IMAGE stays", yard.back(), true);
        Check.same("all of it, again", Check.seen(yard), kept);
        DustYard empty = new DustYard();
        empty.image();
        String nothing = Check.seen(empty);
        Check.addYard(empty, "street at 2 0 mix 010000 waits 9;cart hold 1 goes 9");
        Check.addLaw(empty, "more 1");
        empty.days(3);
        Check.is("back", empty.back(), true);
        Check.same("to an empty yard", Check.seen(empty), nothing);
        Check.is("without a law", empty.count(5), -1);
    }

    private static void imageIsOne() {
        Check.sentence("55: THE IMAGE is kept (one)");
        DustYard yard = new DustYard();
        yard.image();
        yard.days(4);
        yard.image();
        yard.days(4);
        Check.is("back", yard.back(), true);
        Check.is("to the latest", yard.count(9), 4);
        Check.is("back", yard.back(), true);
        Check.is("not to the one before", yard.count(9), 4);
        Check.is("it is no act", yard.count(12), 0);
    }
}
