/** Promises 33 to 39 and 41 to 43: each sentence that names a boundary case has a test of its own. */
public final class GuessEdgesTest {
    private static final Class<IndexOutOfBoundsException> NO_SUCH_THING = IndexOutOfBoundsException.class;
    private static final Class<IllegalArgumentException> NO_SUCH_NUMBER = IllegalArgumentException.class;
    private static final int[] FAR_OFF = {Integer.MIN_VALUE, -2, Integer.MAX_VALUE};

    private GuessEdgesTest() {
    }

    public static void main(String[] args) {
        fromButForOne();
        rowsOfTheLatestTape();
        fromTape();
        likely();
        likelyTape();
        ask();
        askTape();
        meshesBounds();
        meshesNone();
        meshesTape();
        sift();
        siftTape();
        ends();
        side();
        share();
        shareRefused();
        rests();
        odds();
        oddsRefused();
        Check.end();
    }

    /** A question that is answered by rows on the TAPE. */
    private interface Question {
        int answer(DustYard yard);
    }

    private static int told(DustYard yard, Question question, int... rows) {
        Check.tell(yard, rows);
        return question.answer(yard);
    }

    private static DustYard streets() {
        return Check.made("street at 1 1 mix 123456;street at 1 1 mix 123450;street at 1 1 mix 103950;street at 1 1 mix 987654", null);
    }

    /** So many rows of one kind. */
    private static int[] rows(int n, int grain, int number) {
        int[] bytes = new int[2 * n];
        for (int i = 0; i < n; i++) {
            bytes[2 * i] = grain;
            bytes[2 * i + 1] = number;
        }
        return bytes;
    }

    /** TAPES that are not rows, whatever is asked; the greatest number that a row may have is told. */
    private static void wrongTapes(Question question, int most) {
        int[][] wrong = {{1}, {1, 0, 1}, {0, 0}, {7, 0}, {255, 0}, {1, most + 1}, {1, 255}, {1, 128}, {1, 0, 7, 0}, {1, 0, 1, most + 1}, new int[39],
            rows(21, 1, 0), new int[41], rows(200, 1, 0)};
        for (int[] bytes : wrong) {
            DustYard yard = streets();
            Check.tell(yard, bytes);
            Check.refusesTape(yard, bytes.length + " bytes", NO_SUCH_NUMBER, () -> question.answer(yard));
        }
    }

    /** TAPES that are just rows, whatever is asked. */
    private static void rightTapes(Question question, int most) {
        int[][] right = {{}, {1, 0}, {6, most}, rows(20, 6, most)};
        for (int[] bytes : right) {
            DustYard yard = streets();
            told(yard, question, bytes);
            Check.is("it is used up", yard.end(1), false);
        }
    }

    // ---- which STREET it was

    private static void fromButForOne() {
        Check.sentence("FROM .. STREETS in whose MIX all rows are so, but for one at most, as bits");
        Check.is("no STREET", told(new DustYard(), DustYard::from), 0);
        Check.is("none told", told(streets(), DustYard::from), 0b1111);
        Check.is("one row may be wrong of all", told(streets(), DustYard::from, 1, 0), 0b1111);
        Check.is("two are wrong of some", told(streets(), DustYard::from, 2, 2, 6, 6), 0b0011);
        Check.is("one row told twice is two", told(streets(), DustYard::from, 6, 6, 6, 6), 0b0001);
        Check.is("none fits", told(streets(), DustYard::from, 1, 0, 2, 1), 0);
        Check.is("all but one of 20", told(streets(), DustYard::from, rows(20, 1, 9)), 0b1000);
        int[] oneWrong = rows(20, 1, 9);
        oneWrong[39] = 0;
        Check.is("the last one is wrong", told(streets(), DustYard::from, oneWrong), 0b1000);
        oneWrong[1] = 0;
        Check.is("the first one, too", told(streets(), DustYard::from, oneWrong), 0);
    }

    private static void rowsOfTheLatestTape() {
        Check.sentence("33 to 37: Uses the TAPE up: rows of an earlier one are told no more");
        DustYard yard = streets();
        Check.is("three rows", told(yard, DustYard::from, 1, 9, 2, 8, 3, 7), 0b1000);
        Check.is("one row", told(yard, DustYard::from, 1, 9), 0b1111);
        Check.is("none", told(yard, DustYard::from), 0b1111);
        Check.is("none, the least", told(yard, DustYard::likely), 0);
        Check.is("two rows", told(yard, one -> one.meshes(false), 6, 2, 5, 2), 1);
        Check.is("none", told(yard, one -> one.meshes(false)), 21);
    }

    private static void fromTape() {
        Check.sentence("33: (of each two bytes: the GRAIN, how many; at most 40 bytes) .. the TAPE is not that (none may be told)");
        rightTapes(DustYard::from, 9);
        wrongTapes(DustYard::from, 9);
    }

    private static void likely() {
        Check.sentence("LIKELY: of those the one of the fewest wrong rows (of several the least); none");
        Check.is("no STREET", told(new DustYard(), DustYard::likely), -1);
        Check.is("none told: the least", told(streets(), DustYard::likely), 0);
        Check.is("all wrong by one: the least", told(streets(), DustYard::likely, 1, 0), 0);
        Check.is("none wrong", told(streets(), DustYard::likely, 1, 9), 3);
        Check.is("none wrong, one wrong of those ahead", told(streets(), DustYard::likely, 1, 1, 4, 9), 2);
        Check.is("two wrong of each", told(streets(), DustYard::likely, 1, 0, 2, 1), -1);
        Check.is("two of none wrong: the least", told(streets(), DustYard::likely, 2, 2, 3, 3), 0);
    }

    private static void likelyTape() {
        Check.sentence("34: (the TAPE likewise) .. IllegalArgumentException: the TAPE is not that");
        rightTapes(DustYard::likely, 9);
        wrongTapes(DustYard::likely, 9);
    }

    private static void ask() {
        Check.sentence("ASK: the GRAIN by which those that fit are parted so that the greatest part is the least (of several the least; none with fewer than two)");
        Check.is("no STREET", told(new DustYard(), DustYard::ask), -1);
        Check.is("one", told(Check.made("street at 1 1 mix 123456", null), DustYard::ask), -1);
        Check.is("one of several fits", told(streets(), DustYard::ask, 1, 9, 2, 8), -1);
        Check.is("none fits", told(streets(), DustYard::ask, 1, 0, 2, 1), -1);
        Check.is("two alike: the least GRAIN", told(Check.made("street at 1 1 mix 123456;street at 1 1 mix 123456", null), DustYard::ask), 1);
        Check.is("two apart by the coarsest", told(Check.made("street at 1 1 mix 123450;street at 1 1 mix 123459", null), DustYard::ask), 6);
        Check.is("two apart by the finest", told(Check.made("street at 1 1 mix 023450;street at 1 1 mix 923450", null), DustYard::ask), 1);
        Check.is("of several the least", told(Check.made("street at 1 1 mix 003450;street at 1 1 mix 014560", null), DustYard::ask), 2);
        // Of 7 the first GRAIN parts 4 and 3, the second 3, 2 and 2, the third 3 and 4 single ones.
        DustYard seven = Check.made("street at 1 1 mix 000000;street at 1 1 mix 000000;street at 1 1 mix 000000;street at 1 1 mix 011000;"
                + "street at 1 1 mix 112000;street at 1 1 mix 123000;street at 1 1 mix 124000", null);
        Check.is("of 7", told(seven, DustYard::ask), 2);
        // Of those that fit, 4 to 6, the second GRAIN leaves two together, the third none; of all it would be the second.
        Check.is("those that fit alone", told(seven, DustYard::ask, 1, 1, 1, 1), 3);
    }

    private static void askTape() {
        Check.sentence("35: (the TAPE likewise) .. IllegalArgumentException: the TAPE is not that");
        rightTapes(DustYard::ask, 9);
        wrongTapes(DustYard::ask, 9);
    }

    // ---- two sieves found out

    private static int howMany(int... rows) {
        return told(new DustYard(), yard -> yard.meshes(false), rows);
    }

    private static int pair(int... rows) {
        return told(new DustYard(), yard -> yard.meshes(true), rows);
    }

    private static void meshesBounds() {
        Check.sentence("MESHES of 2 to 7 each, all GRAINS going through one of 7; the first one no less than the other one");
        Check.is("none told: all", howMany(), 21);
        Check.is("none told: the least", pair(), 22);
        Check.is("all go through 7 and 7", pair(6, 2), 77);
        Check.is("alone", howMany(6, 2), 1);
        Check.is("2 through neither: 22 alone", howMany(2, 0), 1);
        Check.is("22", pair(2, 0), 22);
        Check.is("6 through one: 72 to 76", howMany(6, 1), 5);
        Check.is("72", pair(6, 1), 72);
        Check.is("2 through one: 32 to 72", howMany(2, 1), 5);
        Check.is("32", pair(2, 1), 32);
        Check.is("1 through both: all", howMany(1, 2), 21);
        Check.is("a GRAIN of its MESH is held back", pair(3, 2, 4, 0), 44);
        Check.is("20 rows", howMany(rows(20, 6, 2)), 1);
    }

    private static void meshesNone() {
        Check.sentence("MESHES .. those that fit: how many; PAIR .. none; 36: NONE");
        Check.is("1 through one", howMany(1, 1), 0);
        Check.is("1 through one", pair(1, 1), -1);
        Check.is("1 through neither", howMany(1, 0), 0);
        Check.is("1 through neither", pair(1, 0), -1);
        Check.is("a finer one through fewer", howMany(3, 1, 4, 2), 0);
        Check.is("one row against another", pair(3, 1, 3, 2), -1);
        int[] last = rows(20, 6, 2);
        last[39] = 1;
        Check.is("not one row may be wrong", howMany(last), 0);
    }

    private static void meshesTape() {
        Check.sentence("36: (of each two bytes: the GRAIN, 0 to 2; at most 40 bytes) .. the TAPE is not that (none may be told)");
        rightTapes(yard -> yard.meshes(false), 2);
        rightTapes(yard -> yard.meshes(true), 2);
        wrongTapes(yard -> yard.meshes(false), 2);
        wrongTapes(yard -> yard.meshes(true), 2);
    }

    private static int siftBy(int... rows) {
        return told(new DustYard(), DustYard::sift, rows);
    }

    private static void sift() {
        Check.sentence("SIFT .. so that the greatest part is the least (of several the least; none with fewer than two)");
        // Of all 21, GRAIN 4 goes through neither of 6, one of 9, both of 6; the greatest parts of 3 and of 5 are 10.
        Check.is("none told", siftBy(), 4);
        Check.is("one fits", siftBy(6, 2), -1);
        Check.is("none fits", siftBy(1, 1), -1);
        Check.is("of 72 and 73", siftBy(6, 1, 3, 1), 2);
        Check.is("of 66 and 76, 77", siftBy(5, 2), 6);
        Check.is("of 22, 32, 33", siftBy(3, 0), 2);
        // Of 72 to 76, GRAIN 3 and GRAIN 4 both leave 3 together; of 22 to 44, GRAIN 2 and GRAIN 3 do.
        Check.is("of several the least", siftBy(6, 1), 3);
        Check.is("of several the least", siftBy(4, 0), 2);
    }

    private static void siftTape() {
        Check.sentence("37: (the TAPE as for MESHES) .. IllegalArgumentException: the TAPE is not that");
        rightTapes(DustYard::sift, 2);
        wrongTapes(DustYard::sift, 2);
    }

    // ---- games

    private static DustYard heap(int... grains) {
        StringBuilder text = new StringBuilder("fire 0");
        for (int grain = 1; grain <= 6; grain++) {
            text.append(";heap ").append(grain).append(' ').append(grains[grain - 1]);
        }
        return Check.made(text.toString(), null);
    }

    private static void ends() {
        Check.sentence("ENDS .. how much more who begins has in the end, both at their best (0, if there is nothing)");
        Check.is("nothing", new DustYard().ends(), 0);
        Check.is("the finest alone", heap(7, 0, 0, 0, 0, 0).ends(), 7);
        Check.is("the coarsest alone", heap(0, 0, 0, 0, 0, 7).ends(), 7);
        Check.is("in the midst", heap(0, 0, 7, 0, 0, 0).ends(), 7);
        Check.is("all alike", heap(999, 999, 999, 999, 999, 999).ends(), 0);
        Check.is("the most", heap(999, 0, 999, 0, 999, 0).ends(), 2997);
    }

    private static void side() {
        Check.sentence("SIDE: which she takes first so (0 the least, if both do; 1 the greatest)");
        Check.is("nothing", new DustYard().side(), 0);
        Check.is("both do", heap(5, 5, 5, 5, 5, 5).side(), 0);
        Check.is("the least", heap(6, 5, 5, 5, 5, 5).side(), 0);
        Check.is("the greatest", heap(5, 5, 5, 5, 5, 6).side(), 1);
        Check.is("the least of two alone", heap(9, 0, 0, 0, 0, 8).side(), 0);
        Check.is("the greatest of two alone", heap(8, 0, 0, 0, 0, 9).side(), 1);
        Check.is("both are worth as much", heap(0, 9, 0, 0, 9, 0).side(), 0);
        // By the greatest first she leaves 1, 100 and three more, of which 100 is hers next.
        Check.is("the greatest, though it is no more", heap(1, 100, 1, 1, 1, 1).side(), 1);
        Check.is("the least, though it is no more", heap(1, 1, 1, 1, 100, 1).side(), 0);
    }

    private static void share() {
        Check.sentence("SHARE .. each to the one whose HOLD, by 1 more than the shovels it has so far, rounded down, is the most (of several the least)");
        DustYard one = Check.made("cart hold 1 goes 1", null);
        Check.is("none", one.share(0, 0), 0);
        Check.is("all to one", one.share(0, 99), 99);
        DustYard three = Check.made("cart hold 3 goes 1;cart hold 6 goes 1;cart hold 6 goes 1", null);
        int[][] due = {{0, 0, 0}, {0, 1, 0}, {0, 1, 1}, {1, 1, 1}, {1, 2, 1}, {1, 2, 2}, {1, 3, 2}, {1, 3, 3}, {2, 3, 3}, {3, 3, 3}, {3, 4, 3}};
        for (int n = 0; n < due.length; n++) {
            for (int cart = 0; cart < 3; cart++) {
                Check.is("share(" + cart + ", " + n + ")", three.share(cart, n), due[n][cart]);
            }
        }
        // From 15 on each of all has 0 by one more: the least has all that are left.
        Check.is("all by 0: the least", three.share(0, 99), 99 - 12);
        Check.is("the others", three.share(1, 99) * 10 + three.share(2, 99), 66);
    }

    private static void shareRefused() {
        Check.sentence("41: IllegalArgumentException: N is none (0 to 99)");
        DustYard yard = Check.made("cart hold 3 goes 1", null);
        for (int n : new int[] {-1, 100, Integer.MIN_VALUE, Integer.MAX_VALUE}) {
            Check.refuses(yard, "N " + n, NO_SUCH_NUMBER, () -> yard.share(0, n));
            Check.refuses(yard, "told first", NO_SUCH_THING, () -> yard.share(1, n));
        }
        Check.sentence("41: IndexOutOfBoundsException: there is no such CART");
        Check.refuses(yard, "1", NO_SUCH_THING, () -> yard.share(1, 1));
        Check.refuses(yard, "-1", NO_SUCH_THING, () -> yard.share(-1, 1));
        DustYard none = new DustYard();
        Check.refuses(none, "0 of none", NO_SUCH_THING, () -> none.share(0, 0));
        for (int far : FAR_OFF) {
            Check.refuses(yard, "far off", NO_SUCH_THING, () -> yard.share(far, 0));
        }
    }

    private static void rests() {
        Check.sentence("RESTS .. WAITS by 10, rounded down .. from which neither would have more by its other one: as bits");
        int[][] due = {{0, 0b1000}, {9, 0b1000}, {10, 0b1000}, {19, 0b1000}, {20, 0}, {29, 0}, {30, 0b0001}, {39, 0b0001}, {40, 0b0001}, {99, 0b0001}};
        for (int[] row : due) {
            Check.is("of " + row[0], Check.made("street at 1 1 mix 000000 waits " + row[0], null).rests(0), row[1]);
        }
        Check.sentence("42: IndexOutOfBoundsException: there is no such STREET");
        DustYard yard = Check.made("street at 1 1 mix 000000", null);
        Check.refuses(yard, "1", NO_SUCH_THING, () -> yard.rests(1));
        Check.refuses(yard, "-1", NO_SUCH_THING, () -> yard.rests(-1));
        for (int far : FAR_OFF) {
            Check.refuses(yard, "far off", NO_SUCH_THING, () -> yard.rests(far));
        }
    }

    private static int odds(int fire, int n, int k) {
        return Check.made("fire " + fire, null).odds(n, k);
    }

    private static void odds() {
        Check.sentence("ODDS of N DAYS (0 to 5) and K (0 to 5): .. fires on K of them at least .. in ten thousandths, rounded down");
        Check.is("0 of 0", odds(50, 0, 0), 10000);
        Check.is("1 of 0", odds(50, 0, 1), 0);
        Check.is("5 of 0", odds(100, 0, 5), 0);
        Check.is("more than there are DAYS", odds(100, 4, 5), 0);
        Check.is("0 at least", odds(0, 5, 0), 10000);
        Check.is("never", odds(0, 5, 1), 0);
        Check.is("always", odds(100, 5, 5), 10000);
        Check.is("on all 5", odds(50, 5, 5), 312);
        Check.is("on 1 of 5 at least", odds(50, 5, 1), 9687);
        Check.is("below a ten thousandth", odds(1, 5, 5), 0);
        Check.is("just a ten thousandth", odds(1, 2, 2), 1);
        Check.is("rounded down", odds(99, 5, 1), 9999);
        Check.is("on 2 of 5 at least", odds(30, 5, 2), 4717);
    }

    private static void oddsRefused() {
        Check.sentence("43: IllegalArgumentException: N or K are none");
        for (int none : new int[] {-1, 6, Integer.MIN_VALUE, Integer.MAX_VALUE}) {
            DustYard yard = Check.made("fire 50", null);
            Check.refuses(yard, "N " + none, NO_SUCH_NUMBER, () -> yard.odds(none, 0));
            Check.refuses(yard, "K " + none, NO_SUCH_NUMBER, () -> yard.odds(5, none));
        }
    }
}
