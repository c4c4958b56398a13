/** Promises 1 to 6, and the texts of THE YARD and of THE LAW: each sentence that names a boundary case has a test of its own. */
public final class TextEdgesTest {
    private static final String STREET = "street at 1 1 mix 000000";
    private static final String CART = "cart hold 1 goes 1";
    private static final String CONTRACT = "contract 1 to 1 many 1 pays 1";

    private TextEdgesTest() {
    }

    public static void main(String[] args) {
        newObject();
        feedAtMost();
        feedHighestFirst();
        endTooLong();
        endBelowNone();
        endCuts();
        yardUsesTheTapeUp();
        yardWrong();
        yardTwelve();
        lawUsesTheTapeUp();
        lawWrong();
        faultOfTheLatest();
        emptyTexts();
        linesOfTheYard();
        linesOfTheLaw();
        tooManyOfAll();
        placesAndMixes();
        sixFigures();
        waits();
        carts();
        sieves();
        contracts();
        heaps();
        firesAndRats();
        tillAndDay();
        digits();
        numbersOfTheLaw();
        words();
        blanks();
        otherBytes();
        deep();
        moreMustCome();
        whatCannotStandThere();
        nothingOfAWrongText();
        fillsAndToll();
        ofAStreet();
        inPlaceOfTheOneBefore();
        Check.end();
    }

    // ---- the TAPE

    private static void newObject() {
        Check.sentence("1: A yard without dust.");
        DustYard yard = new DustYard();
        int[] counts = {0, 0, 0, 0, 0, -1, 0, 0, 0, 0, 0, 0, 0};
        for (int what = 0; what < counts.length; what++) {
            Check.is("count " + what, yard.count(what), counts[what]);
        }
        for (int grain = 1; grain <= 6; grain++) {
            Check.is("heap " + grain, yard.heap(grain), 0);
        }
        Check.is("SEED 1 at first", yard.seed(1), 1);
        Check.is("nothing on the TAPE", yard.end(1), false);
        Check.refuses(yard, "no STREET", IndexOutOfBoundsException.class, () -> yard.street(0, 0));
        Check.refuses(yard, "no CART", IndexOutOfBoundsException.class, () -> yard.cart(0, 0));
        Check.refuses(yard, "no SIEVE", IndexOutOfBoundsException.class, () -> yard.mesh(0));
        Check.refuses(yard, "no CONTRACT", IndexOutOfBoundsException.class, () -> yard.contract(0, 0));
        Check.is("a DAY of an empty yard", yard.days(1), 0);
        Check.is("it goes by all the same", yard.count(9), 1);
    }

    private static DustYard fed(int times) {
        DustYard yard = new DustYard();
        for (int i = 0; i < times; i++) {
            yard.feed(0, 0, 0, 0, 0);
        }
        return yard;
    }

    private static void feedAtMost() {
        Check.sentence("2: NONE, and none come, if it would have more than 400");
        Check.is("the first", fed(0).feed(0, 0, 0, 0, 0), 20);
        Check.is("just 400", fed(19).feed(0, 0, 0, 0, 0), 400);
        DustYard full = fed(20);
        Check.is("of a full one", full.feed(0, 0, 0, 0, 0), -1);
        Check.is("none came", full.end(401), false);
        Check.is("400 are there", full.end(400), true);
        DustYard almost = fed(20);
        almost.end(381);
        Check.is("401 would be", almost.feed(0, 0, 0, 0, 0), -1);
        Check.is("not even some came", almost.end(382), false);
        Check.is("381 are there", almost.end(381), true);
        almost.end(380);
        Check.is("400 would be", almost.feed(0, 0, 0, 0, 0), 400);
        DustYard kept = new DustYard();
        Check.tell(kept, "fire 5" + " ".repeat(394));
        kept.feed(-1, -1, -1, -1, -1);
        Check.is("the text that was there stays", kept.yard(), 1);
        Check.is("FIRE", kept.count(6), 5);
    }

    private static void feedHighestFirst() {
        Check.sentence("2: Twenty bytes come behind the TAPE, of each number the highest first");
        DustYard yard = new DustYard();
        // "sieve 2;sieve 3;fire" and " 7" behind it.
        yard.feed(0x73696576, 0x6520323b, 0x73696576, 0x6520333b, 0x66697265);
        Check.is("forty", yard.feed(0x20372020, 0x20202020, 0x20202020, 0x20202020, 0x20202020), 40);
        Check.is("a text", yard.yard(), 1);
        Check.is("MESH", yard.mesh(0), 2);
        Check.is("MESH", yard.mesh(1), 3);
        Check.is("FIRE", yard.count(6), 7);
        // Each of the twenty places by itself: the first byte that is no blank is the first wrong one.
        for (int at = 0; at < 20; at++) {
            int[] numbers = {0x20202020, 0x20202020, 0x20202020, 0x20202020, 0x20202020};
            numbers[at / 4] |= 0x80 << 24 - at % 4 * 8;
            DustYard one = new DustYard();
            one.feed(numbers[0], numbers[1], numbers[2], numbers[3], numbers[4]);
            Check.refusesTape(one, "a byte of 160", IllegalArgumentException.class, one::yard);
            Check.is("where it is", one.fault(), at);
        }
    }

    private static void endTooLong() {
        Check.sentence("3: false, and nothing happens, if it has fewer");
        DustYard yard = new DustYard();
        Check.is("1 of none", yard.end(1), false);
        yard.feed(0x736d6f6b, 0x65202020, 0x20202020, 0x20202020, 0x20202020);
        Check.is("21 of 20", yard.end(21), false);
        Check.is("far too many", yard.end(Integer.MAX_VALUE), false);
        Check.is("just 20", yard.end(20), true);
        Check.is("all is there yet", yard.yard(), 1);
        Check.is("SMOKE", yard.count(10), 1);
    }

    private static void endBelowNone() {
        Check.sentence("3: false, and nothing happens, if .. n is below 0");
        DustYard yard = new DustYard();
        Check.is("-1 of none", yard.end(-1), false);
        Check.is("0 of none", yard.end(0), true);
        yard.feed(0x736d6f6b, 0x65202020, 0x20202020, 0x20202020, 0x20202020);
        Check.is("-1", yard.end(-1), false);
        Check.is("the least int", yard.end(Integer.MIN_VALUE), false);
        Check.is("20 are there yet", yard.end(20), true);
        yard.yard();
        Check.is("SMOKE", yard.count(10), 1);
    }

    private static void endCuts() {
        Check.sentence("3: The TAPE has its first n bytes alone");
        DustYard yard = new DustYard();
        yard.feed(0x66697265, 0x20313233, 0, 0, 0);
        Check.is("cut", yard.end(7), true);
        Check.is("8 are no more there", yard.end(8), false);
        Check.is("what comes, comes behind these", yard.feed(0x3b726174, 0x73203520, 0x20202020, 0x20202020, 0x20202020), 27);
        yard.yard();
        Check.is("FIRE", yard.count(6), 12);
        Check.is("RATS", yard.count(7), 5);
    }

    // ---- yard, law, fault

    private static void yardUsesTheTapeUp() {
        Check.sentence("4: Uses the TAPE up");
        DustYard yard = new DustYard();
        Check.is("the first", Check.addYard(yard, "smoke"), 1);
        Check.is("it is used up", yard.end(1), false);
        Check.is("an empty one", yard.yard(), 2);
        Check.is("feed begins anew", yard.feed(0, 0, 0, 0, 0), 20);
    }

    private static void yardWrong() {
        Check.sentence("4: IllegalArgumentException: it is wrong");
        DustYard yard = Check.made("smoke", null);
        yard.douse();
        Check.tell(yard, "fire 101");
        Check.refusesTape(yard, "fire 101", IllegalArgumentException.class, yard::yard);
        Check.is("one text", yard.count(4), 1);
        Check.is("acts are remembered yet", yard.undo(), true);
    }

    private static void yardTwelve() {
        Check.sentence("4: UnsupportedOperationException: there are 12");
        DustYard yard = new DustYard();
        for (int text = 1; text <= 12; text++) {
            Check.is("text", Check.addYard(yard, "fire " + text), text);
        }
        Check.is("the twelfth counts", yard.count(6), 12);
        yard.douse();
        Check.tell(yard, "fire 13");
        Check.refusesTape(yard, "a 13th", UnsupportedOperationException.class, yard::yard);
        Check.refusesTape(yard, "an empty 13th", UnsupportedOperationException.class, yard::yard);
        Check.tell(yard, "fire 1000");
        Check.refusesTape(yard, "a wrong 13th: of several the one told first", IllegalArgumentException.class, yard::yard);
        Check.is("its first wrong byte", yard.fault(), 5);
        Check.is("acts are remembered yet", yard.count(12), 1);
        Check.is("a law is another thing", Check.addLaw(yard, "more 1"), 1);
        DustYard back = new DustYard();
        for (int text = 1; text <= 11; text++) {
            Check.addYard(back, "");
        }
        back.image();
        Check.is("the twelfth", Check.addYard(back, ""), 12);
        back.back();
        Check.is("again, having gone back", Check.addYard(back, ""), 12);
        Check.refusesTape(back, "and no more", UnsupportedOperationException.class, back::yard);
    }

    private static void lawUsesTheTapeUp() {
        Check.sentence("5: Uses the TAPE up");
        DustYard yard = new DustYard();
        Check.is("two", Check.addLaw(yard, "more 1;toll 1"), 2);
        Check.is("it is used up", yard.end(1), false);
        Check.is("none", yard.law(), 0);
        Check.addYard(yard, STREET);
        String sum = "1+".repeat(150) + "1";
        for (int i = 0; i < 12; i++) {
            Check.is("there may be any number of laws", Check.addLaw(yard, "toll 1 if x<" + i + "+" + sum), 1);
            Check.is("each a long one", yard.street(0, 5), 1);
            Check.addLaw(yard, "toll 1 if x>" + i + "+" + sum);
            Check.is("each a long one", yard.street(0, 5), 0);
        }
        Check.is("none is a text of THE YARD", yard.count(4), 1);
    }

    private static void lawWrong() {
        Check.sentence("5: IllegalArgumentException: the text is wrong");
        DustYard none = Check.made("smoke;" + STREET, null);
        Check.tell(none, "more 5;more");
        Check.refusesTape(none, "none was there", IllegalArgumentException.class, none::law);
        Check.is("and none is", none.count(5), -1);
        DustYard yard = Check.made("smoke;" + STREET, "toll 7 if smoke;more 2");
        yard.days(1);
        yard.tip(0);
        Check.tell(yard, "toll 9;toll 9;toll 9;toll 100");
        Check.refusesTape(yard, "the one before stays", IllegalArgumentException.class, yard::law);
        Check.is("LINES", yard.count(5), 2);
        Check.is("FILLS", yard.street(0, 4), 3);
        Check.is("acts are remembered yet", yard.count(12), 2);
    }

    private static void faultOfTheLatest() {
        Check.sentence("6: The first wrong byte of the latest text that was read; NONE without one, and ahead of any");
        DustYard yard = new DustYard();
        Check.is("ahead of any", yard.fault(), -1);
        Check.tell(yard, "?");
        Check.is("a text that was not read", yard.fault(), -1);
        Check.refusesTape(yard, "the first byte", IllegalArgumentException.class, yard::law);
        Check.is("0 is a byte, too", yard.fault(), 0);
        Check.addYard(yard, "");
        Check.is("of a right one", yard.fault(), -1);
        Check.tell(yard, "x".repeat(400));
        Check.refusesTape(yard, "a long one", IllegalArgumentException.class, yard::yard);
        Check.is("of THE YARD", yard.fault(), 0);
        Check.tell(yard, "more" + " ".repeat(396));
        Check.refusesTape(yard, "a full one", IllegalArgumentException.class, yard::law);
        Check.is("the greatest there is", yard.fault(), 400);
        Check.tell(yard, 7);
        Check.refusesTape(yard, "no text", IllegalArgumentException.class, yard::round);
        Check.is("of the latest TEXT", yard.fault(), 400);
        Check.addLaw(yard, "more 1");
        Check.is("of a right law", yard.fault(), -1);
    }

    // ---- how texts are read

    /** A text of THE YARD that is right. */
    private static DustYard right(String text) {
        DustYard yard = new DustYard();
        Check.tell(yard, text);
        int texts = 0;
        try {
            texts = yard.yard();
        } catch (RuntimeException e) {
            Check.same(text, e.getClass().getName() + " at " + yard.fault(), "no exception");
        }
        Check.is(text, texts, 1);
        Check.is("fault of: " + text, yard.fault(), -1);
        return yard;
    }

    private static void wrong(String text, int at) {
        DustYard yard = Check.made("fire 3;rats 4;till 5;day 6;heap 1 7;heap 6 8", null);
        Check.tell(yard, text);
        Check.refusesTape(yard, text, IllegalArgumentException.class, yard::yard);
        Check.is("fault of: " + text, yard.fault(), at);
    }

    /** A THE LAW that is right, of a yard with one STREET. */
    private static DustYard rightLaw(String text, int lines) {
        DustYard yard = Check.made(STREET, null);
        Check.tell(yard, text);
        int got = -2;
        try {
            got = yard.law();
        } catch (RuntimeException e) {
            Check.same(text, e.getClass().getName() + " at " + yard.fault(), "no exception");
        }
        Check.is(text, got, lines);
        Check.is("LINES of: " + text, yard.count(5), lines);
        Check.is("fault of: " + text, yard.fault(), -1);
        return yard;
    }

    private static void wrongLaw(String text, int at) {
        DustYard yard = Check.made(STREET, "more 3;toll 2");
        Check.tell(yard, text);
        Check.refusesTape(yard, text, IllegalArgumentException.class, yard::law);
        Check.is("fault of: " + text, yard.fault(), at);
    }

    private static String times(int n, String line) {
        return (line + ";").repeat(n - 1) + line;
    }

    private static void emptyTexts() {
        Check.sentence("A text that is empty, or blanks alone, has no LINE");
        right("");
        right(" ");
        right(" ".repeat(400));
        rightLaw("", 0);
        rightLaw(" ", 0);
        rightLaw(" ".repeat(400), 0);
    }

    private static void linesOfTheYard() {
        Check.sentence("THE YARD: LINE { ; LINE }, at most 14; of a LINE .. too many, the first word");
        Check.is("one", right("fire 7").count(6), 7);
        Check.is("14", right(times(13, "fire 6") + ";fire 7").count(6), 7);
        wrong(times(15, "fire 6"), 14 * 7);
        wrong(times(14, "fire 6") + " ;  fire 6", 14 * 7 + 3);
        wrong(times(14, "fire 6") + ";", 14 * 7);
        wrong(times(14, "fire 6") + ";;", 14 * 7);
        wrong(";fire 6", 0);
        wrong("fire 6;", 7);
        wrong("fire 6;;fire 6", 7);
    }

    private static void linesOfTheLaw() {
        Check.sentence("THE LAW: LINE { ; LINE }, at most 12; of a LINE .. too many, the first word");
        Check.is("12", rightLaw(times(12, "more 2"), 12).street(0, 4), 25);
        wrongLaw(times(13, "more 2"), 12 * 7);
        wrongLaw(times(12, "more 2") + " ;  more 2", 12 * 7 + 3);
        wrongLaw(times(12, "more 2") + ";", 12 * 7);
        wrongLaw(times(12, "more 2") + ";;", 12 * 7);
        wrongLaw(";more 2", 0);
        wrongLaw("more 2;", 7);
        wrongLaw("more 2;;more 2", 7);
    }

    private static void oneTooMany(String line, int most, int what) {
        DustYard yard = Check.made(times(most, line), null);
        Check.is("the most of: " + line, yard.count(what), most);
        Check.tell(yard, "fire 9; " + line);
        Check.refusesTape(yard, "one more of: " + line, IllegalArgumentException.class, yard::yard);
        Check.is("its first word", yard.fault(), 8);
        Check.tell(yard, line.substring(0, line.indexOf(' ')) + " !");
        Check.refusesTape(yard, "its word comes ahead of all behind it", IllegalArgumentException.class, yard::yard);
        Check.is("its first word", yard.fault(), 0);
        wrong(times(most + 1, line), most * (line.length() + 1));
        DustYard second = Check.made(times(most - 1, line), null);
        Check.is("the last one in a text of its own", Check.addYard(second, line), 2);
        Check.is("the most of: " + line, second.count(what), most);
    }

    private static void tooManyOfAll() {
        Check.sentence("STREETS (at most 7); of a .. STREET .. too many, the first word");
        oneTooMany(STREET, 7, 0);
        Check.sentence("CARTS (at most 3); of a .. CART .. too many, the first word");
        oneTooMany(CART, 3, 1);
        Check.sentence("SIEVES (at most 4); of a .. SIEVE .. too many, the first word");
        oneTooMany("sieve 2", 4, 2);
        Check.sentence("CONTRACTS (at most 6); of a .. CONTRACT too many, the first word");
        oneTooMany(CONTRACT, 6, 3);
        DustYard dropped = Check.made(times(6, CONTRACT), null);
        dropped.drop(0);
        Check.tell(dropped, CONTRACT);
        Check.refusesTape(dropped, "a dropped one counts", IllegalArgumentException.class, dropped::yard);
    }

    private static void placesAndMixes() {
        Check.sentence("X, Y 0 to 9");
        DustYard least = right("street at 0 0 mix 000000");
        Check.is("X", least.street(0, 0), 0);
        Check.is("Y", least.street(0, 1), 0);
        DustYard most = right("street at 9 9 mix 999999");
        Check.is("X", most.street(0, 0), 9);
        Check.is("Y", most.street(0, 1), 9);
        wrong("street at 10 0 mix 000000", 10);
        wrong("street at 0 10 mix 000000", 12);
        wrong("street at -1 0 mix 000000", 10);
        Check.sentence("MIX: of each GRAIN how many a load has, 0 to 9");
        for (int grain = 1; grain <= 6; grain++) {
            Check.is("the least", least.mix(0, grain), 0);
            Check.is("the most", most.mix(0, grain), 9);
        }
        Check.is("nothing", least.street(0, 3), 0);
        Check.is("all", most.street(0, 3), 54);
    }

    private static void sixFigures() {
        Check.sentence("D: just six figures without a blank, one for each of the GRAINS from 1 on, else it is wrong at its begin");
        DustYard yard = right("street at 1 1 mix 012389");
        int[] mix = {0, 1, 2, 3, 8, 9};
        for (int grain = 1; grain <= 6; grain++) {
            Check.is("MIX", yard.mix(0, grain), mix[grain - 1]);
        }
        wrong("street at 1 1 mix 01238", 18);
        wrong("street at 1 1 mix 0123890", 18);
        wrong("street at 1 1 mix 012 389", 18);
        wrong("street at 1 1 mix 0123a9", 18);
        wrong("street at 1 1 mix 0 1 2 3 8 9", 18);
        wrong("street at 1 1 mix 12345;", 18);
        wrong("street at 1 1 mix abcdef", 18);
        wrong("street at 1 1 mix waits 3", 18);
        wrong("street at 1 1 mix ;", 18);
        wrong("street at 1 1 mix", 17);
        wrong("street at 1 1 mix 000000000000", 18);
    }

    private static void waits() {
        Check.sentence("waits 0 to 99; WAITS (0 at first)");
        Check.is("none told", right(STREET).street(0, 2), 0);
        Check.is("0", right(STREET + " waits 0").street(0, 2), 0);
        Check.is("99", right(STREET + " waits 99").street(0, 2), 99);
        wrong(STREET + " waits 100", 31);
        wrong(STREET + " waits", 30);
        wrong(STREET + " waits x", 31);
        wrong(STREET + " waits 1 waits 1", 33);
    }

    private static void carts() {
        Check.sentence("HOLD 1 to 9 loads");
        Check.is("1", right("cart hold 1 goes 5").cart(0, 0), 1);
        Check.is("9", right("cart hold 9 goes 5").cart(0, 0), 9);
        wrong("cart hold 0 goes 5", 10);
        wrong("cart hold 10 goes 5", 10);
        Check.sentence("GOES 1 to 99");
        Check.is("1", right("cart hold 5 goes 1").cart(0, 1), 1);
        Check.is("99", right("cart hold 5 goes 99").cart(0, 1), 99);
        wrong("cart hold 5 goes 0", 17);
        wrong("cart hold 5 goes 100", 17);
    }

    private static void sieves() {
        Check.sentence("MESH 2 to 6");
        Check.is("2", right("sieve 2").mesh(0), 2);
        Check.is("6", right("sieve 6").mesh(0), 6);
        wrong("sieve 0", 6);
        wrong("sieve 1", 6);
        wrong("sieve 7", 6);
    }

    private static void contracts() {
        Check.sentence("contract: LOW, HIGH, no less than LOW, else it is wrong at it");
        Check.is("1 to 1", right("contract 1 to 1 many 1 pays 1").contract(0, 1), 1);
        Check.is("6 to 6", right("contract 6 to 6 many 1 pays 1").contract(0, 0), 6);
        Check.is("1 to 6", right("contract 1 to 6 many 1 pays 1").contract(0, 1), 6);
        wrong("contract 6 to 5 many 1 pays 1", 14);
        wrong("contract 2 to 1 many 1 pays 1", 14);
        wrong("contract 0 to 1 many 1 pays 1", 9);
        wrong("contract 7 to 7 many 1 pays 1", 9);
        wrong("contract 6 to 7 many 1 pays 1", 14);
        wrong("contract 1 to 0 many 1 pays 1", 14);
        Check.sentence("MANY 1 to 99");
        Check.is("1", right("contract 1 to 1 many 1 pays 1").contract(0, 2), 1);
        Check.is("99", right("contract 1 to 1 many 99 pays 1").contract(0, 2), 99);
        wrong("contract 1 to 1 many 0 pays 1", 21);
        wrong("contract 1 to 1 many 100 pays 1", 21);
        Check.sentence("PAYS 0 to 9 for each");
        Check.is("0", right("contract 1 to 1 many 1 pays 0").contract(0, 3), 0);
        Check.is("9", right("contract 1 to 1 many 1 pays 9").contract(0, 3), 9);
        wrong("contract 1 to 1 many 1 pays 10", 28);
        Check.sentence("OPEN (at first) or not");
        Check.is("at first", right(CONTRACT).contract(0, 4), 1);
    }

    private static void heaps() {
        Check.sentence("heap: a GRAIN, and how many there are then, 0 to 999");
        Check.is("the finest", right("heap 1 999").heap(1), 999);
        Check.is("the coarsest", right("heap 6 999").heap(6), 999);
        Check.is("none", right("heap 3 5;heap 3 0").heap(3), 0);
        Check.is("then, not together", right("heap 3 5;heap 3 7").heap(3), 7);
        wrong("heap 0 1", 5);
        wrong("heap 7 1", 5);
        wrong("heap 1 1000", 7);
        wrong("heap 1", 6);
        DustYard full = Check.made("heap 2 999;street at 0 0 mix 090000 waits 99", null);
        full.tip(0);
        Check.addYard(full, "heap 2 5");
        Check.is("in place of more", full.heap(2), 5);
    }

    private static void firesAndRats() {
        Check.sentence("FIRE 0 to 100");
        Check.is("0", right("fire 5;fire 0").count(6), 0);
        Check.is("100", right("fire 100").count(6), 100);
        wrong("fire 101", 5);
        wrong("fire 999", 5);
        Check.sentence("RATS 0 to 100");
        Check.is("0", right("rats 5;rats 0").count(7), 0);
        Check.is("100", right("rats 100").count(7), 100);
        wrong("rats 101", 5);
        wrong("rats 999", 5);
    }

    private static void tillAndDay() {
        Check.sentence("till, day 0 to 999");
        Check.is("till 0", right("till 5;till 0").count(8), 0);
        Check.is("till 999", right("till 999").count(8), 999);
        Check.is("day 0", right("day 5;day 0").count(9), 0);
        Check.is("day 999", right("day 999").count(9), 999);
        wrong("till 1000", 5);
        wrong("day 1000", 4);
        Check.sentence("SMOKE or not (not at first)");
        Check.is("not at first", right("fire 100").count(10), 0);
        Check.is("told", right("smoke").count(10), 1);
        Check.is("twice", right("smoke;smoke").count(10), 1);
    }

    private static void digits() {
        Check.sentence("All other numbers are of 1 to 3 digits");
        Check.is("one", right("sieve 2").mesh(0), 2);
        Check.is("two", right("sieve 02").mesh(0), 2);
        Check.is("three", right("sieve 002").mesh(0), 2);
        wrong("sieve 0002", 6);
        wrong("street at 0001 1 mix 000000", 10);
        wrong("street at 1 0001 mix 000000", 12);
        wrong(STREET + " waits 0001", 31);
        wrong("cart hold 0001 goes 1", 10);
        wrong("cart hold 1 goes 0001", 17);
        wrong("contract 0001 to 1 many 1 pays 1", 9);
        wrong("contract 1 to 0001 many 1 pays 1", 14);
        wrong("contract 1 to 1 many 0001 pays 1", 21);
        wrong("contract 1 to 1 many 1 pays 0001", 28);
        wrong("heap 0001 1", 5);
        wrong("heap 1 0001", 7);
        wrong("fire 0001", 5);
        wrong("rats 0001", 5);
        wrong("till 0001", 5);
        wrong("day 0001", 4);
        wrong("till 4294967297", 5);
        wrong("till " + "0".repeat(395), 5);
    }

    private static void numbersOfTheLaw() {
        Check.sentence("All numbers are of 1 to 3 digits (N 0 to 99)");
        Check.is("0", rightLaw("more 0", 1).street(0, 4), 1);
        Check.is("99", rightLaw("more 99", 1).street(0, 4), 100);
        Check.is("099", rightLaw("more 099", 1).street(0, 4), 100);
        Check.is("less 99", rightLaw("less 99", 1).street(0, 4), 0);
        Check.is("toll 99", rightLaw("toll 99", 1).street(0, 5), 99);
        for (String kind : new String[] {"more", "less", "toll"}) {
            wrongLaw(kind + " 100", 5);
            wrongLaw(kind + " 0099", 5);
            wrongLaw(kind, 4);
            wrongLaw(kind + " x", 5);
        }
        Check.is("000 to 999", rightLaw("toll 1 if 000<999", 1).street(0, 5), 1);
        wrongLaw("toll 1 if 1000>1", 10);
        wrongLaw("toll 1 if 1<1000", 12);
        wrongLaw("toll 1 if 1<0001", 12);
        wrongLaw("toll 1 if 1<1+0001", 14);
    }

    private static void words() {
        Check.sentence("Words are as long as a to z go on");
        right("street at1 1mix000000waits9;cart hold1goes1;sieve2;contract1to1many1pays1;heap1 1;fire1;rats1;till1;day1;smoke");
        wrong("streetat 1 1 mix 000000", 0);
        wrong("smokes", 0);
        wrong("smokez", 0);
        wrong("smokea", 0);
        wrong("zsmoke", 0);
        wrong("smok", 0);
        wrong("smoke smoke", 6);
        wrong("Smoke", 0);
        wrong("smokE", 0);
        wrong("sieve 2x", 7);
        wrong("sieve x2", 6);
        rightLaw("more1if x+1<y and not(far)or full", 1);
        wrongLaw("more 1 iffar", 7);
        wrongLaw("more 1 if notfar", 10);
        wrongLaw("more 1 if far andfull", 14);
        wrongLaw("more 1 if xy<1", 10);
        wrongLaw("more 1 if x y<1", 12);
    }

    private static void blanks() {
        Check.sentence("between all there may be blanks (32), also ahead and behind");
        right("   sieve    2   ;   fire   3   ");
        rightLaw("   more   1   if   (   x   +   1   <   2   )   and   not   far   ;   toll   2   ", 2);
        wrong("sie ve 2", 0);
        wrong("till 9 9", 7);
        wrong("sieve\t2", 5);
        wrong("sieve 2\n", 7);
        wrong("\rsieve 2", 0);
    }

    private static void otherBytes() {
        Check.sentence("The first wrong byte: the begin of the first thing that cannot stand there");
        for (int sign : new int[] {0, 1, 9, 31, 33, 47, 58, 64, 91, 96, 123, 127, 128, 160, 178, 200, 255}) {
            wrong((char) sign + "smoke", 0);
            wrong("smoke" + (char) sign, 5);
            wrong("till 1" + (char) sign, 6);
            wrongLaw("more 1" + (char) sign, 6);
            wrongLaw("more 1 if far" + (char) sign, 13);
        }
    }

    private static void deep() {
        Check.sentence("( and not within one another at most 6 deep; the ( or not that is a 7th one deep");
        rightLaw("more 1 if ((((((far))))))", 1);
        rightLaw("more 1 if not not not not not not far", 1);
        rightLaw("more 1 if (not (not (not far)))", 1);
        rightLaw("more 1 if ((((((far)))))) and ((((((far)))))) or not not not not not not far", 1);
        rightLaw("more 1 if (((((far or (full) and (smoke) and not far)))))", 1);
        rightLaw("more 1 if ((((((far))))));more 1 if ((((((far))))))", 2);
        // Of this STREET far does not hold, and x<2 does.
        holds(STREET, "((((((x<2))))))", true);
        holds(STREET, "((((((far))))))", false);
        holds(STREET, "not not not not not not x<2", true);
        holds(STREET, "not not not not not far", true);
        holds(STREET, "not not not not not not far", false);
        holds(STREET, "not (far or not (x<2 and not (far and x<2)))", true);
        holds(STREET, "not (far or not (x<2 and not (far or x<2)))", false);
        holds(STREET, "1<2 and (1<2 and (1<2 and (1<2 and (1<2 and (1<2 and (1<2 or far))))))", true);
        holds(STREET, "far or (far or (far or (far or (far or (far or (x<1+1+1 and 1<2))))))", true);
        holds(STREET, "far or 1<2 and (far or 1<2 and (far or 1<2 and (far or 1<2 and (far or 1<2 and (far or 1<2 and (far or 1<2 and far))))))", false);
        wrongLaw("more 1 if (((((((far)))))))", 16);
        wrongLaw("more 1 if not not not not not not not far", 34);
        wrongLaw("more 1 if ((((((not far))))))", 16);
        wrongLaw("more 1 if not not not not not not (far)", 34);
        wrongLaw("more 1 if not(not(not(not(far))))", 22);
        wrongLaw("more 1 if ((((((far and (far)))))))", 24);
        wrongLaw("more 1 if far and far or ((((((far or not", 38);
        wrongLaw("more 1 if " + "(".repeat(390), 16);
        wrongLaw("more 1 if " + "not ".repeat(97), 34);
    }

    private static void moreMustCome() {
        Check.sentence("or the text's length, if more must come");
        String line = "street at 1 1 mix 000000 waits";
        for (int at = 1; at < line.length(); at++) {
            boolean behindAThing = line.charAt(at) == ' ';
            boolean mayEnd = line.substring(0, at).equals(STREET);
            if (behindAThing && !mayEnd) {
                wrong(line.substring(0, at), at);
                wrong(line.substring(0, at) + "   ", at + 3);
            }
        }
        for (String text : new String[] {"cart", "cart hold", "cart hold 1", "cart hold 1 goes", "sieve", "contract", "contract 1",
            "contract 1 to", "contract 1 to 1", "contract 1 to 1 many", "contract 1 to 1 many 1", "contract 1 to 1 many 1 pays",
            "heap", "heap 1", "fire", "rats", "till", "day"}) {
            wrong(text, text.length());
            wrong(text + " ", text.length() + 1);
        }
        for (String text : new String[] {"more", "less", "toll", "more 1 if", "more 1 if not", "more 1 if (", "more 1 if (far", "more 1 if x",
            "more 1 if 1", "more 1 if x +", "more 1 if x <", "more 1 if x >", "more 1 if x < 1 +", "more 1 if far and", "more 1 if far or",
            "more 1 if ((far)", "more 1 if (far and full", "more 1;"}) {
            wrongLaw(text, text.length());
            wrongLaw(text + " ", text.length() + 1);
        }
        wrong("sieve" + " ".repeat(395), 400);
        wrong(";".repeat(400), 0);
        wrong("sieve 2" + ";".repeat(393), 8);
    }

    private static void whatCannotStandThere() {
        Check.sentence("a word that is none");
        wrong("law 1", 0);
        wrong("more 1", 0);
        wrong("street by 1 1 mix 000000", 7);
        wrong("street at 1 1 max 000000", 14);
        wrong(STREET + " wait 1", 25);
        wrong("cart holds 1 goes 1", 5);
        wrong("cart hold 1 go 1", 12);
        wrong("contract 1 till 1 many 1 pays 1", 11);
        wrong("contract 1 to 1 much 1 pays 1", 16);
        wrong("contract 1 to 1 many 1 pay 1", 23);
        wrongLaw("street 1", 0);
        wrongLaw("more 1 when far", 7);
        wrongLaw("more 1 if near", 10);
        wrongLaw("more 1 if fire", 10);
        wrongLaw("more 1 if x<smoke", 12);
        wrongLaw("more 1 if far xor full", 14);
        Check.sentence("the first thing that cannot stand there");
        wrong("fire 5 5", 7);
        wrong("fire x;sieve 9", 5);
        wrongLaw("more 1 if", 9);
        wrongLaw("more 1 if ()", 11);
        wrongLaw("more 1 if far)", 13);
        wrongLaw("more 1 if (far;more 1", 14);
        wrongLaw("more 1 if (x)<2", 12);
        wrongLaw("more 1 if x<1<2", 13);
        wrongLaw("more 1 if x=1", 11);
        wrongLaw("more 1 if x>=1", 12);
        wrongLaw("more 1 if <1", 10);
        wrongLaw("more 1 if x;", 11);
        wrongLaw("more 1 if far far", 14);
        wrongLaw("more 1 if and far", 10);
        wrongLaw("more 1 if far or and", 17);
        wrongLaw("more 1 if not and", 14);
        wrongLaw("more 1 if x+", 12);
        wrongLaw("more 1 if +x<1", 10);
        wrongLaw("more 1 more 1", 7);
    }

    private static void nothingOfAWrongText() {
        Check.sentence("Of a wrong text nothing stays");
        DustYard yard = Check.made("fire 1", "more 1");
        Check.tell(yard, STREET + " waits 5;" + CART + ";sieve 2;" + CONTRACT + ";heap 1 5;fire 5;rats 5;till 5;day 5;smoke;smoke!");
        Check.refusesTape(yard, "all of it", IllegalArgumentException.class, yard::yard);
        Check.is("one STREET of the next", Check.addYard(yard, "street at 2 2 mix 111111"), 2);
        Check.is("X", yard.street(0, 0), 2);
        Check.is("WAITS", yard.street(0, 2), 0);
        Check.tell(yard, "less 9;toll 9;toll 9 if x=");
        Check.refusesTape(yard, "a law", IllegalArgumentException.class, yard::law);
        Check.is("FILLS", yard.street(0, 4), 2);
        Check.is("TOLL", yard.street(0, 5), 0);
    }

    // ---- what THE LAW tells

    private static void fillsAndToll() {
        Check.sentence("FILLS of a STREET: 1, and the sum of N of all more LINES that hold, less that of all less LINES (0 at least)");
        Check.is("without a law", Check.made(STREET, null).street(0, 4), 1);
        Check.is("just 0", rightLaw("less 1", 1).street(0, 4), 0);
        Check.is("0 at least", rightLaw("less 2", 1).street(0, 4), 0);
        Check.is("0 at least of all together", rightLaw("less 9;more 9", 2).street(0, 4), 1);
        Check.is("the most", rightLaw(times(12, "more 99"), 12).street(0, 4), 1189);
        Check.is("a line that does not hold", rightLaw("more 5 if smoke;less 1 if far", 2).street(0, 4), 1);
        Check.sentence("TOLL of a STREET: the sum of N of all toll LINES that hold");
        Check.is("without a law", Check.made(STREET, null).street(0, 5), 0);
        Check.is("no toll line", rightLaw("more 5", 1).street(0, 5), 0);
        Check.is("the most", rightLaw(times(12, "toll 99"), 12).street(0, 5), 1188);
        Check.is("a line that does not hold", rightLaw("toll 5 if smoke;toll 1", 2).street(0, 5), 1);
    }

    /** Whether a condition holds of the one STREET of such a yard. */
    private static void holds(String yardText, String condition, boolean due) {
        DustYard yard = Check.made(yardText, "toll 1 if " + condition);
        Check.is(yardText + ": " + condition, yard.street(0, 5), due ? 1 : 0);
    }

    private static void ofAStreet() {
        Check.sentence("day: DAY modulo 100");
        holds(STREET + ";day 99", "day>98", true);
        holds(STREET + ";day 100", "day<1", true);
        holds(STREET + ";day 999", "day>98 and day<100", true);
        Check.sentence("far: X and Y are above 9 together");
        holds("street at 9 0 mix 000000", "far", false);
        holds("street at 9 1 mix 000000", "far", true);
        holds("street at 0 9 mix 000000", "far", false);
        holds("street at 1 9 mix 000000", "far", true);
        Check.sentence("full: WAITS are 20 at least");
        holds(STREET + " waits 19", "full", false);
        holds(STREET + " waits 20", "full", true);
        Check.sentence("loads: what MIX has together");
        holds("street at 1 1 mix 000000", "loads<1", true);
        holds("street at 1 1 mix 999999", "loads>53 and loads<55", true);
        Check.sentence("SUM < SUM | SUM > SUM");
        holds(STREET, "1<1", false);
        holds(STREET, "1>1", false);
        holds(STREET, "1<2", true);
        holds(STREET, "2>1", true);
        holds(STREET, "0<1+0", true);
        holds(STREET + ";till 999", "till+999>999+998", true);
        String sum = "1+".repeat(192) + "1";
        holds(STREET, "193<" + sum, false);
        holds(STREET, "192<" + sum, true);
    }

    private static void inPlaceOfTheOneBefore() {
        Check.sentence("THE LAW (a text, in place of the one before)");
        DustYard yard = Check.made(STREET, "more 5;toll 6;toll 7");
        Check.is("an empty one", Check.addLaw(yard, ""), 0);
        Check.is("LINES", yard.count(5), 0);
        Check.is("FILLS", yard.street(0, 4), 1);
        Check.is("TOLL", yard.street(0, 5), 0);
        Check.addLaw(yard, "toll 2 if ((x<y or far) and not smoke) or till<1");
        Check.is("TOLL", yard.street(0, 5), 2);
        Check.addLaw(yard, "toll 3 if smoke");
        Check.is("TOLL", yard.street(0, 5), 0);
    }
}
