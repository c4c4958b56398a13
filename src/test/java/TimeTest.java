import java.util.NoSuchElementException;

/** Promises 48 to 57: days ahead, trials, THE LOG, SEED, acts undone, THE IMAGE. */
public final class TimeTest {
    private TimeTest() {
    }

    public static void main(String[] args) {
        ahead();
        trial();
        span();
        log();
        led();
        seed();
        undo();
        undoOfEachAct();
        image();
        Check.end();
    }

    private static void ahead() {
        DustYard yard = Check.made("street at 1 0 mix 100011 waits 5;street at 9 9 mix 000000;cart hold 2 goes 5;fire 100;rats 100;smoke;"
                + "contract 1 to 1 many 5 pays 2;heap 4 8", "more 2 if smoke;toll 1 if day>1");
        String before = Check.seen(yard);
        Check.is("0 days", yard.ahead(0, 0), 5);
        Check.is("1 day", yard.ahead(0, 1), 6);
        Check.is("2 days", yard.ahead(0, 2), 7);
        // The third day costs what TILL has not yet; none goes.
        Check.is("3 days", yard.ahead(0, 3), 10);
        Check.is("the other street", yard.ahead(1, 3), 9);
        Check.is("the heap now", yard.ahead(-1, 0), 8);
        Check.is("the heap, without fires and rats", yard.ahead(-1, 2), 8 + 12);
        Check.is("60 days", yard.ahead(1, 60), 99);
        Check.same("nothing stays", Check.seen(yard), before);
        Check.refuses(yard, "61 days", IllegalArgumentException.class, () -> yard.ahead(0, 61));
        Check.refuses(yard, "-1 days", IllegalArgumentException.class, () -> yard.ahead(-1, -1));
        Check.refuses(yard, "no street", IndexOutOfBoundsException.class, () -> yard.ahead(2, 61));
        Check.refuses(yard, "-2", IndexOutOfBoundsException.class, () -> yard.ahead(-2, 0));
        DustYard deals = Check.made("street at 1 0 mix 100000 waits 5;cart hold 2 goes 5;contract 1 to 1 many 3 pays 2", "toll 3 if day>1");
        Check.is("contracts are filled ahead, too", deals.ahead(-1, 2), 1);
        Check.is("and pay a toll", deals.ahead(-1, 3), 3);
    }

    private static DustYard burning() {
        return Check.made("street at 1 0 mix 000111 waits 50;cart hold 2 goes 5;fire 30;rats 30;contract 4 to 6 many 9 pays 2;"
                + "contract 5 to 6 many 9 pays 3;contract 6 to 6 many 9 pays 9;till 5", "toll 1 if smoke");
    }

    private static void trial() {
        DustYard yard = burning();
        yard.seed(77);
        String before = Check.seen(yard);
        DustYard other = burning();
        other.seed(77);
        for (int n = 0; n <= 60; n++) {
            int heap = 0;
            for (int grain = 1; grain <= 6; grain++) {
                heap += other.heap(grain);
            }
            Check.is("trial " + n, yard.trial(n, false), other.count(8));
            Check.is("trial of the heap " + n, yard.trial(n, true), heap);
            other.days(1);
        }
        Check.same("nothing stays", Check.seen(yard), before);
        Check.refuses(yard, "61", IllegalArgumentException.class, () -> yard.trial(61, false));
        Check.refuses(yard, "-1", IllegalArgumentException.class, () -> yard.trial(-1, true));
    }

    private static void span() {
        DustYard yard = burning();
        yard.seed(-5);
        String before = Check.seen(yard);
        boolean parted = false;
        for (int n = 0; n <= 60; n += 3) {
            int least = 9999;
            int most = 0;
            for (int seed = 1; seed <= 6; seed++) {
                DustYard other = burning();
                other.seed(seed);
                int till = other.trial(n, false);
                least = Math.min(least, till);
                most = Math.max(most, till);
            }
            parted |= least != most;
            Check.is("the least of " + n, yard.span(n, false), least);
            Check.is("the greatest of " + n, yard.span(n, true), most);
        }
        Check.is("seeds are no matter of indifference", parted, true);
        Check.is("now", yard.span(0, false), 5);
        Check.is("now", yard.span(0, true), 5);
        // The first two draws of SEED 1 are 38 and 58, of 6 26 and 15; of the others 8 and 17, 47 and 7, 17 and 66, 55 and 57.
        DustYard last = Check.made("fire 30;rats 16;heap 4 6;heap 5 6;contract 4 to 5 many 9 pays 1", null);
        Check.is("fire and rats by SEED 6 alone", last.span(1, false), 0);
        Check.is("all others", last.span(1, true), 9);
        DustYard first = Check.made("fire 20;rats 58;heap 4 6;heap 5 6;contract 4 to 5 many 12 pays 1", null);
        Check.is("neither by SEED 1 alone", first.span(1, true), 12);
        Check.is("all others", first.span(1, false), 0);
        Check.same("nothing stays", Check.seen(yard), before);
        Check.refuses(yard, "61", IllegalArgumentException.class, () -> yard.span(61, false));
        Check.refuses(yard, "-1", IllegalArgumentException.class, () -> yard.span(-1, true));
    }

    private static void log() {
        DustYard yard = Check.made("street at 1 0 mix 100000 waits 50;cart hold 2 goes 5;contract 1 to 1 many 5 pays 2;"
                + "contract 1 to 1 many 5 pays 2", null);
        Check.is("none", yard.log(0, 4), -2);
        yard.drop(1);
        yard.days(3);
        Check.is("rows", yard.count(11), 4);
        int[][] due = {{2, 0, 1, -1, 5}, {2, 0, 0, 0, 2}, {1, 0, 0, 0, 2}, {0, 0, 0, 0, 2}, {-2, -2, -2, -2, -2}};
        for (int ago = 0; ago < due.length; ago++) {
            for (int what = 0; what < 5; what++) {
                Check.is("log(" + ago + ", " + what + ")", yard.log(ago, what), due[ago][what]);
            }
        }
        Check.is("-1 ago", yard.log(-1, 0), -2);
        Check.is("long ago", yard.log(Integer.MAX_VALUE, 0), -2);
        yard.days(55);
        Check.is("59 rows", yard.count(11), 59);
        yard.days(1);
        Check.is("the oldest", yard.log(59, 0), 0);
        yard.days(1);
        Check.is("60 at most", yard.count(11), 60);
        Check.is("the oldest now", yard.log(59, 0), 1);
        Check.is("the latest", yard.log(0, 0), 59);
        Check.is("60 ago", yard.log(60, 0), -2);
        yard.days(60);
        Check.is("the latest", yard.log(0, 0), 119);
        Check.is("the oldest", yard.log(59, 0), 60);
        Check.refuses(yard, "what 5", NoSuchElementException.class, () -> yard.log(0, 5));
        Check.refuses(yard, "what -1", NoSuchElementException.class, () -> yard.log(0, -1));
        Check.refuses(yard, "what 5 of none", NoSuchElementException.class, () -> yard.log(99, 5));
    }

    private static void led() {
        DustYard yard = Check.made("street at 1 0 mix 100000 waits 9;street at 0 1 mix 100000 waits 7;street at 9 9 mix 000000 waits 99;"
                + "cart hold 2 goes 5;contract 1 to 1 many 2 pays 2;contract 1 to 1 many 2 pays 2;day 5", "less 1");
        Check.is("no row", yard.led(0, false), 0);
        Check.is("no day", yard.led(0, true), -1);
        yard.days(3);
        Check.is("rows of 0", yard.led(0, false), 2);
        Check.is("its day", yard.led(0, true), 6);
        Check.is("rows of 1", yard.led(1, false), 1);
        Check.is("its day", yard.led(1, true), 7);
        Check.is("rows of 2", yard.led(2, false), 0);
        Check.is("its day", yard.led(2, true), -1);
        Check.is("contracts in between", yard.count(11), 5);
        Check.refuses(yard, "no street", IndexOutOfBoundsException.class, () -> yard.led(3, false));
        Check.refuses(yard, "NONE", IndexOutOfBoundsException.class, () -> yard.led(-1, true));
    }

    private static void seed() {
        DustYard yard = Check.made("fire 50", null);
        Check.is("1 at first", yard.seed(Integer.MIN_VALUE), 1);
        Check.is("what it was", yard.seed(-7), Integer.MIN_VALUE);
        Check.is("no act", yard.count(12), 0);
        yard.days(1);
        int once = 1103515245 * -7 + 12345;
        Check.is("two draws a day", yard.seed(1), 1103515245 * once + 12345);
        Check.is("a draw's bits", yard.count(10), (once >>> 16 & 0x7fff) % 100 < 50 ? 1 : 0);
    }

    private static void undo() {
        DustYard yard = Check.made("street at 1 0 mix 100000 waits 99;till 99;cart hold 2 goes 5;fire 50", null);
        String[] before = new String[16];
        for (int i = 0; i < 15; i++) {
            before[i] = Check.seen(yard).replaceFirst(" [0-9]+ \n", "\n");
            if (i % 3 == 0) {
                yard.days(1 + i);
            } else {
                yard.tip(0);
            }
            Check.is("remembered", yard.count(12), Math.min(12, i + 1));
        }
        for (int i = 14; i >= 3; i--) {
            Check.is("undo", yard.undo(), true);
            Check.same("as ahead of it", Check.seen(yard).replaceFirst(" [0-9]+ \n", "\n"), before[i]);
            Check.is("remembered", yard.count(12), i - 3);
        }
        Check.is("12 are remembered", yard.undo(), false);
        Check.same("nothing more", Check.seen(yard).replaceFirst(" [0-9]+ \n", "\n"), before[3]);
        yard.tip(0);
        Check.tell(yard, "fire 800");
        Check.refuses(yard, "a wrong text forgets nothing", IllegalArgumentException.class, yard::yard);
        Check.is("remembered", yard.count(12), 1);
        Check.addYard(yard, "");
        Check.is("a text forgets", yard.count(12), 0);
        Check.is("undo", yard.undo(), false);
        yard.tip(0);
        Check.addLaw(yard, "");
        Check.is("a law forgets", yard.undo(), false);
        yard.tip(0);
        yard.image();
        Check.is("an image does not", yard.count(12), 1);
        yard.back();
        Check.is("going back does", yard.undo(), false);
        yard.seed(5);
        yard.tip(0);
        yard.seed(6);
        yard.tip(0);
        yard.undo();
        Check.is("SEED as ahead of it", yard.seed(9), 6);
        yard.undo();
        Check.is("SEED as ahead of it", yard.seed(9), 5);
        Check.tell(yard, 1, 2, 3);
        yard.tip(0);
        yard.undo();
        Check.is("the tape stays", yard.end(3), true);
    }

    private static void undoOfEachAct() {
        DustYard yard = Check.made("street at 1 0 mix 100000 waits 9;till 99;smoke;heap 1 9;contract 1 to 1 many 1 pays 9;"
                + "contract 1 to 1 many 1 pays 9", null);
        Check.Act[] acts = {() -> yard.days(3), () -> yard.tip(0), () -> yard.buy(3), () -> yard.take(1, 1, 1, 1), () -> yard.drop(0),
            () -> yard.hire(1, 1), () -> yard.lay(0, 1, 5), yard::douse, () -> yard.fill(1)};
        String before = Check.seen(yard);
        for (int i = 0; i < acts.length; i++) {
            acts[i].run();
            Check.is("act " + i, yard.count(12), 1);
            Check.is("it changed something", Check.seen(yard).equals(before), false);
            Check.is("undone", yard.undo(), true);
            Check.same("act " + i, Check.seen(yard), before);
        }
    }

    private static void image() {
        DustYard yard = Check.made("street at 1 0 mix 100000 waits 9;till 9;cart hold 2 goes 5;fire 50", "toll 1");
        Check.is("none was kept", yard.back(), false);
        yard.days(2);
        Check.is("nothing happened", yard.count(12), 1);
        yard.image();
        String kept = Check.seen(yard);
        Check.addYard(yard, "street at 2 0 mix 010000 waits 9;sieve 3;smoke");
        Check.addLaw(yard, "more 9;toll 7 if far");
        yard.days(7);
        yard.seed(99);
        yard.take(1, 1, 1, 1);
        Check.tell(yard, 1, 2, 3);
        Check.is("back", yard.back(), true);
        Check.is("the tape stays", yard.end(3), true);
        Check.same("all is as it was", Check.seen(yard), kept.replaceFirst(" 1 \n", " 0 \n"));
        Check.is("texts", yard.count(4), 1);
        Check.is("lines", yard.count(5), 1);
        yard.days(5);
        Check.is("back again", yard.back(), true);
        Check.same("the image stays", Check.seen(yard), kept.replaceFirst(" 1 \n", " 0 \n"));
        yard.days(5);
        yard.image();
        yard.undo();
        Check.is("undoing leaves the image", yard.back(), true);
        Check.is("it is the latest one", yard.count(9), 7);
        DustYard lawless = Check.made("street at 1 0 mix 100000", null);
        lawless.image();
        Check.addLaw(lawless, "more 5");
        lawless.back();
        Check.is("no law", lawless.count(5), -1);
        Check.is("FILLS", lawless.street(0, 4), 1);
    }
}
