/** Promises 33 to 39 and 41 to 43: guesses by rows, and games. */
public final class GuessTest {
    private GuessTest() {
    }

    public static void main(String[] args) {
        from();
        ask();
        wrongRows();
        meshes();
        sift();
        ends();
        share();
        rests();
        odds();
        Check.end();
    }

    private static int from(DustYard yard, int... rows) {
        Check.tell(yard, rows);
        return yard.from();
    }

    private static int likely(DustYard yard, int... rows) {
        Check.tell(yard, rows);
        return yard.likely();
    }

    private static int ask(DustYard yard, int... rows) {
        Check.tell(yard, rows);
        return yard.ask();
    }

    private static int sift(DustYard yard, int... rows) {
        Check.tell(yard, rows);
        return yard.sift();
    }

    private static int meshes(boolean first, DustYard yard, int... rows) {
        Check.tell(yard, rows);
        return yard.meshes(first);
    }

    private static void from() {
        DustYard yard = Check.made("street at 1 1 mix 123456;street at 1 1 mix 123450;street at 1 1 mix 103450;street at 1 1 mix 987654", null);
        Check.is("none told", from(yard), 0b1111);
        Check.is("one row may be wrong", from(yard, 1, 5), 0b1111);
        Check.is("two rows", from(yard, 1, 1, 2, 2), 0b0111);
        Check.is("two rows", from(yard, 6, 6, 2, 2), 0b0011);
        Check.is("three rows", from(yard, 6, 6, 2, 2, 1, 1), 0b0011);
        Check.is("a row twice is two rows", from(yard, 6, 6, 6, 6), 0b0001);
        Check.is("none", from(yard, 1, 0, 2, 9), 0);
        Check.is("likely without rows", likely(yard), 0);
        Check.is("the fewest wrong", likely(yard, 6, 0, 2, 0), 2);
        Check.is("the first of two", likely(yard, 6, 6, 2, 0, 1, 1), 0);
        Check.is("no wrong one", likely(yard, 6, 4, 1, 9), 3);
        Check.is("none", likely(yard, 1, 0, 2, 9), -1);
        int[] most = new int[40];
        for (int i = 0; i < 40; i += 2) {
            most[i] = 3;
            most[i + 1] = 3;
        }
        Check.is("40 bytes", from(yard, most), 0b0111);
        Check.is("used up", yard.end(1), false);
        Check.is("of no streets", from(new DustYard(), 1, 1), 0);
        Check.is("of no streets", likely(new DustYard(), 1, 1), -1);
    }

    private static void ask() {
        DustYard yard = Check.made("street at 1 1 mix 110010;street at 1 1 mix 111120;street at 1 1 mix 122130;street at 1 1 mix 122210", null);
        // Parts: 4, 2 and 2, 1 and 1 and 2, 3 at most, 2 at most, 4.
        Check.is("the first that parts best", ask(yard), 2);
        Check.is("of three", ask(yard, 2, 2, 4, 1), 5);
        Check.is("of two", ask(yard, 2, 2, 3, 2, 1, 1, 6, 1), 4);
        Check.is("fewer than two", ask(yard, 5, 3, 5, 3), -1);
        Check.is("none", ask(yard, 5, 9, 5, 9), -1);
        DustYard alike = Check.made("street at 1 1 mix 110010;street at 1 1 mix 110010", null);
        Check.is("none parts them", ask(alike), 1);
        Check.is("of no streets", ask(new DustYard()), -1);
        DustYard nine = Check.made("street at 1 1 mix 110019;street at 1 1 mix 110010", null);
        Check.is("the last", ask(nine), 6);
    }

    private static void wrongRows() {
        DustYard yard = Check.made("street at 1 1 mix 123456", null);
        int[][] wrong = {{1}, {1, 1, 1}, {0, 1}, {7, 1}, {1, 10}, {255, 255}, {1, 255}, {1, 1, 0, 0}, {1, 0, 1}, new int[42], new int[41]};
        int[] tooMany = wrong[9];
        for (int i = 0; i < 42; i++) {
            tooMany[i] = 1;
        }
        for (int[] rows : wrong) {
            Check.tell(yard, rows);
            Check.refuses(yard, "from", IllegalArgumentException.class, yard::from);
            Check.is("used up", yard.end(1), false);
            Check.tell(yard, rows);
            Check.refuses(yard, "likely", IllegalArgumentException.class, yard::likely);
            Check.is("used up", yard.end(1), false);
            Check.tell(yard, rows);
            Check.refuses(yard, "ask", IllegalArgumentException.class, yard::ask);
            Check.is("used up", yard.end(1), false);
            Check.tell(yard, rows);
            Check.refuses(yard, "meshes", IllegalArgumentException.class, () -> yard.meshes(true));
            Check.is("used up", yard.end(1), false);
            Check.tell(yard, rows);
            Check.refuses(yard, "meshes", IllegalArgumentException.class, () -> yard.meshes(false));
            Check.is("used up", yard.end(1), false);
            Check.tell(yard, rows);
            Check.refuses(yard, "sift", IllegalArgumentException.class, yard::sift);
            Check.is("used up", yard.end(1), false);
        }
        Check.tell(yard, 1, 3);
        Check.refuses(yard, "meshes of 3", IllegalArgumentException.class, () -> yard.meshes(false));
        Check.tell(yard, 1, 3);
        Check.refuses(yard, "sift of 3", IllegalArgumentException.class, yard::sift);
        Check.is("9 of a grain", from(yard, 1, 9), 1);
    }

    private static void meshes() {
        DustYard yard = new DustYard();
        Check.is("all", meshes(false, yard), 21);
        Check.is("the first", meshes(true, yard), 22);
        Check.is("1 always goes through", meshes(false, yard, 1, 2), 21);
        Check.is("1 goes through both", meshes(false, yard, 1, 1), 0);
        Check.is("none", meshes(true, yard, 1, 0), -1);
        Check.is("6 through both", meshes(true, yard, 6, 2), 77);
        Check.is("6 through both", meshes(false, yard, 6, 2), 1);
        Check.is("6 through the first", meshes(true, yard, 6, 1), 72);
        Check.is("6 through the first", meshes(false, yard, 6, 1), 5);
        Check.is("2 through none", meshes(false, yard, 2, 0), 1);
        Check.is("2 through none", meshes(true, yard, 2, 0), 22);
        Check.is("3 through both", meshes(true, yard, 3, 2), 44);
        Check.is("two rows", meshes(false, yard, 3, 2, 4, 1), 3);
        Check.is("two rows", meshes(true, yard, 3, 2, 4, 1), 54);
        Check.is("against one another", meshes(false, yard, 3, 2, 3, 1), 0);
        Check.is("no row may be wrong", meshes(true, yard, 3, 2, 4, 1, 5, 2), -1);
    }

    private static void sift() {
        DustYard yard = new DustYard();
        Check.is("all", sift(yard), 4);
        Check.is("one fits", sift(yard, 6, 2), -1);
        Check.is("none fits", sift(yard, 1, 0), -1);
        // 72 to 76 are left: 2 goes through both of 4, 3 of 3, 4 of 2, 5 of 1 of these.
        Check.is("of five", sift(yard, 6, 1), 3);
        Check.is("of three", sift(yard, 3, 2, 4, 1), 5);
        Check.is("of one", sift(yard, 3, 0, 2, 1, 1, 2), -1);
        Check.is("of two, by the last", sift(yard, 5, 2), 6);
        Check.is("of 72 and 73", sift(yard, 6, 1, 3, 1), 2);
        Check.is("of 22, 32, 33", sift(yard, 3, 0), 2);
    }

    private static DustYard heap(int... grains) {
        StringBuilder text = new StringBuilder("fire 0");
        for (int grain = 1; grain <= 6; grain++) {
            text.append(";heap ").append(grain).append(' ').append(grains[grain - 1]);
        }
        return Check.made(text.toString(), null);
    }

    private static void ends() {
        int[][] rows = {{0, 0, 0, 0, 0, 0}, {1, 0, 0, 0, 0, 0}, {0, 0, 0, 0, 0, 9}, {5, 5, 5, 5, 5, 5}, {1, 100, 1, 1, 1, 1},
            {1, 1, 1, 1, 100, 1}, {1, 2, 3, 4, 5, 6}, {3, 9, 1, 2, 7, 5}, {8, 15, 3, 7, 1, 2}};
        int[] lead = {0, 1, 9, 0, 99, 99, 3, 11, 12};
        int[] side = {0, 0, 1, 0, 1, 0, 1, 1, 1};
        for (int i = 0; i < rows.length; i++) {
            DustYard yard = heap(rows[i]);
            Check.is("ends " + i, yard.ends(), lead(rows[i], 0, 5));
            Check.is("side " + i, yard.side(), side(rows[i]));
            if (i < 7) {
                Check.is("ends " + i, yard.ends(), lead[i]);
                Check.is("side " + i, yard.side(), side[i]);
            }
            Check.is("nothing is taken", yard.heap(6), rows[i][5]);
        }
        int[] row = new int[6];
        for (int i = 0; i < 300; i++) {
            for (int grain = 0; grain < 6; grain++) {
                row[grain] = (i * 37 + grain * 101 + i * grain * grain * 13) % 29;
            }
            DustYard yard = heap(row);
            Check.is("ends of many", yard.ends(), lead(row, 0, 5));
            Check.is("side of many", yard.side(), side(row));
        }
    }

    private static int lead(int[] row, int low, int high) {
        return low > high ? 0 : Math.max(row[low] - lead(row, low + 1, high), row[high] - lead(row, low, high - 1));
    }

    private static int side(int[] row) {
        return row[0] - lead(row, 1, 5) >= row[5] - lead(row, 0, 4) ? 0 : 1;
    }

    private static void share() {
        DustYard yard = Check.made("cart hold 4 goes 1;cart hold 9 goes 1;cart hold 4 goes 1", null);
        // 9, then 4 of the first, of the second (9 by 2) and of the third, then 9 by 3, 9 by 4, 4 by 2 ..
        int[][] due = {{0, 0, 0}, {0, 1, 0}, {1, 1, 0}, {1, 2, 0}, {1, 2, 1}, {1, 3, 1}, {2, 3, 1}, {2, 4, 1}, {2, 4, 2}};
        for (int n = 0; n < due.length; n++) {
            for (int cart = 0; cart < 3; cart++) {
                Check.is("share(" + cart + ", " + n + ")", yard.share(cart, n), due[n][cart]);
            }
        }
        Check.is("all shovels", yard.share(0, 99) + yard.share(1, 99) + yard.share(2, 99), 99);
        Check.is("at 0 the first has all that are left", yard.share(1, 99), 9);
        Check.is("of one", Check.made("cart hold 1 goes 1", null).share(0, 99), 99);
        Check.refuses(yard, "-1", IllegalArgumentException.class, () -> yard.share(0, -1));
        Check.refuses(yard, "100", IllegalArgumentException.class, () -> yard.share(0, 100));
        Check.refuses(yard, "no cart", IndexOutOfBoundsException.class, () -> yard.share(3, 100));
        Check.refuses(yard, "NONE", IndexOutOfBoundsException.class, () -> yard.share(-1, 0));
    }

    private static void rests() {
        // Coming and bitten rests from 3 tens on, staying and hidden up to 1 ten.
        int[][] due = {{0, 0b1000}, {9, 0b1000}, {19, 0b1000}, {20, 0}, {29, 0}, {30, 0b0001}, {99, 0b0001}};
        for (int[] row : due) {
            DustYard yard = Check.made("street at 1 1 mix 000000;street at 1 1 mix 000000 waits " + row[0], null);
            Check.is("rests of " + row[0], yard.rests(1), row[1]);
            Check.is("rests of 0", yard.rests(0), 0b1000);
        }
        DustYard yard = Check.made("street at 1 1 mix 000000", null);
        Check.refuses(yard, "no street", IndexOutOfBoundsException.class, () -> yard.rests(1));
        Check.refuses(yard, "NONE", IndexOutOfBoundsException.class, () -> yard.rests(-1));
    }

    private static void odds() {
        DustYard yard = Check.made("fire 30", null);
        int[][] due = {{0, 0, 10000}, {0, 1, 0}, {1, 1, 3000}, {2, 1, 5100}, {2, 2, 900}, {3, 2, 2160}, {5, 1, 8319}, {5, 5, 24},
            {5, 0, 10000}, {4, 5, 0}, {5, 3, 1630}};
        for (int[] row : due) {
            Check.is("odds(" + row[0] + ", " + row[1] + ")", yard.odds(row[0], row[1]), row[2]);
        }
        Check.is("never", new DustYard().odds(5, 1), 0);
        Check.is("always", Check.made("fire 100", null).odds(5, 5), 10000);
        int[][] none = {{-1, 0}, {6, 0}, {0, -1}, {0, 6}};
        for (int[] row : none) {
            Check.refuses(yard, "odds", IllegalArgumentException.class, () -> yard.odds(row[0], row[1]));
        }
    }
}
