/** Promises 2 to 6: the TAPE, the texts of THE YARD and of THE LAW, and their first wrong byte. */
public final class TextTest {
    private TextTest() {
    }

    public static void main(String[] args) {
        feedAndEnd();
        yardLines();
        yardFaults();
        yardLimits();
        lawLines();
        lawWords();
        lawFaults();
        lawDepth();
        faultOfTheLatest();
        Check.end();
    }

    private static void feedAndEnd() {
        DustYard yard = new DustYard();
        for (int i = 1; i <= 20; i++) {
            Check.is("feed " + i, yard.feed(0, 0, 0, 0, 0), 20 * i);
        }
        Check.is("a 21st feed", yard.feed(0, 0, 0, 0, 0), -1);
        Check.is("end above the tape", yard.end(401), false);
        Check.is("end at the tape's length", yard.end(400), true);
        Check.is("end below 0", yard.end(-1), false);
        Check.is("end 381", yard.end(381), true);
        Check.is("no room for twenty", yard.feed(0, 0, 0, 0, 0), -1);
        Check.is("end 382 of 381", yard.end(382), false);
        Check.is("end 380", yard.end(380), true);
        Check.is("room for twenty", yard.feed(0, 0, 0, 0, 0), 400);
        Check.is("end 0", yard.end(0), true);
        Check.is("end 1 of 0", yard.end(1), false);
        // The highest byte of each number comes first: three streets, each told by a byte.
        DustYard streets = Check.made("street at 1 0 mix 000000;street at 0 2 mix 000000;street at 9 9 mix 000000", null);
        streets.end(0);
        streets.feed(0x00010000, 0x02000000, 0, 0, 0);
        streets.end(4);
        Check.is("bytes 0 1 0 0", streets.round(), 6);
        streets.feed(0, 0x00000002, 0, 0, 0);
        streets.feed(0xff000000, 0, 0, 0, 0);
        streets.end(4);
        Check.is("bytes 0 0 0 0", streets.round(), 2);
        streets.feed(0x02ffffff, 0, 0, 0, 0);
        streets.end(1);
        Check.is("byte 2", streets.round(), 36);
        streets.feed(0xff000000, 0, 0, 0, 0);
        streets.end(1);
        Check.refuses(streets, "byte 255", IllegalArgumentException.class, streets::round);
        Check.is("it is used up", streets.end(1), false);
    }

    private static void yardLines() {
        DustYard yard = new DustYard();
        Check.is("a text", Check.addYard(yard, "  street at 3 4 mix 123456 waits 99 ;cart hold 9 goes 99;sieve 6"), 1);
        Check.is("X", yard.street(0, 0), 3);
        Check.is("Y", yard.street(0, 1), 4);
        Check.is("WAITS", yard.street(0, 2), 99);
        for (int grain = 1; grain <= 6; grain++) {
            Check.is("MIX " + grain, yard.mix(0, grain), grain);
        }
        Check.is("HOLD", yard.cart(0, 0), 9);
        Check.is("GOES", yard.cart(0, 1), 99);
        Check.is("MESH", yard.mesh(0), 6);
        Check.is("another", Check.addYard(yard,
                "street at 0 9mix 900000;contract 1 to 6 many 99 pays 9;heap 1 999;heap6 7 ;fire100;rats 100;till 999;"
                + "day 999;smoke;sieve 002;heap 1 5   "), 2);
        Check.is("STREETS", yard.count(0), 2);
        Check.is("no waits", yard.street(1, 2), 0);
        Check.is("MIX", yard.mix(1, 1), 9);
        int[] contract = {1, 6, 99, 9, 1};
        for (int what = 0; what < 5; what++) {
            Check.is("CONTRACT " + what, yard.contract(0, what), contract[what]);
        }
        Check.is("the latest heap counts", yard.heap(1), 5);
        Check.is("heap 6", yard.heap(6), 7);
        int[] counts = {2, 1, 2, 1, 2, -1, 100, 100, 999, 999, 1};
        for (int what = 0; what < counts.length; what++) {
            Check.is("count " + what, yard.count(what), counts[what]);
        }
        Check.is("MESH", yard.mesh(1), 2);
        Check.is("blanks alone", Check.addYard(yard, "     "), 3);
        Check.is("empty", Check.addYard(yard, ""), 4);
        Check.is("zeroes", Check.addYard(yard, "heap 1 0;fire 0;rats 000;till 0;day 0;contract 6 to 6 many 1 pays 0"), 5);
        Check.is("heap 1", yard.heap(1), 0);
        Check.is("smoke stays", yard.count(10), 1);
        Check.is("fire", yard.count(6) + yard.count(7) + yard.count(8) + yard.count(9), 0);
        Check.is("pays 0", yard.contract(1, 3), 0);
    }

    /** A wrong text is wrong just there, is used up, and nothing of it stays. */
    private static void wrongYard(String text, int at) {
        DustYard yard = Check.made("street at 1 1 mix 111111 waits 3;till 9", "more 1");
        yard.tip(0);
        Check.tell(yard, text);
        Check.refuses(yard, text, IllegalArgumentException.class, yard::yard);
        Check.is("fault of: " + text, yard.fault(), at);
        Check.is("used up: " + text, yard.end(1), false);
    }

    private static void yardFaults() {
        wrongYard(";", 0);
        wrongYard("  ;", 2);
        wrongYard("sieve 2;", 8);
        wrongYard("sieve 2;  ", 10);
        wrongYard("sieve 2;;sieve 2", 8);
        wrongYard("sieve 2 sieve 2", 8);
        wrongYard("Sieve 2", 0);
        wrongYard("sieves 2", 0);
        wrongYard("siev 2", 0);
        wrongYard("sieve", 5);
        wrongYard("sieve  ", 7);
        wrongYard("sieve 1", 6);
        wrongYard("sieve 7", 6);
        wrongYard("sieve 2 ;smokez", 9);
        wrongYard(";".repeat(400), 0);
        wrongYard(" ".repeat(399) + ";", 399);
        wrongYard("sieve 0002", 6);
        wrongYard("sieve -2", 6);
        wrongYard("sieve two", 6);
        wrongYard("sieve 2.", 7);
        wrongYard("sieve" + (char) 9 + "2", 5);
        wrongYard("sieve" + (char) 160 + "2", 5);
        wrongYard("sieve 2" + (char) 0, 7);
        wrongYard("street 1 1 mix 000000", 7);
        wrongYard("street at", 9);
        wrongYard("street at 1", 11);
        wrongYard("street at 10 1 mix 000000", 10);
        wrongYard("street at 1 10 mix 000000", 12);
        wrongYard("street at 11 mix 000000", 10);
        wrongYard("street at 1 1", 13);
        wrongYard("street at 1 1 mid 000000", 14);
        wrongYard("street at 1 1 mix", 17);
        wrongYard("street at 1 1 mix   ", 20);
        wrongYard("street at 1 1 mix 000 000", 18);
        wrongYard("street at 1 1 mix 00a000", 18);
        wrongYard("street at 1 1 mix aaaaaa", 18);
        wrongYard("street at 1 1 mix ;", 18);
        wrongYard("street at 1 1 mix 0000000", 18);
        wrongYard("street at 1 1 mix 000000 wait 1", 25);
        wrongYard("street at 1 1 mix 000000 waits", 30);
        wrongYard("street at 1 1 mix 000000 waits 100", 31);
        wrongYard("street at 1 1 mix 000000 waits 1 waits 1", 33);
        wrongYard("street at 1 1 mix 000000 1", 25);
        wrongYard("cart", 4);
        wrongYard("cart goes 1", 5);
        wrongYard("cart hold 10 goes 1", 10);
        wrongYard("cart hold 0 goes 1", 10);
        wrongYard("cart hold 1", 11);
        wrongYard("cart hold 1 go 1", 12);
        wrongYard("cart hold 1 goes 0", 17);
        wrongYard("cart hold 1 goes 100", 17);
        wrongYard("contract 0 to 1 many 1 pays 1", 9);
        wrongYard("contract 7 to 7 many 1 pays 1", 9);
        wrongYard("contract 1 two", 11);
        wrongYard("contract 1 to 7 many 1 pays 1", 14);
        wrongYard("contract 3 to 2 many 1 pays 1", 14);
        wrongYard("contract 3 to 3 much", 16);
        wrongYard("contract 3 to 3 many 0 pays 1", 21);
        wrongYard("contract 3 to 3 many 100 pays 1", 21);
        wrongYard("contract 3 to 3 many 99 pay 1", 24);
        wrongYard("contract 3 to 3 many 99 pays 10", 29);
        wrongYard("contract 3 to 3 many 99 pays", 28);
        wrongYard("heap", 4);
        wrongYard("heap 0 1", 5);
        wrongYard("heap 7 1", 5);
        wrongYard("heap 1", 6);
        wrongYard("heap 1 1000", 7);
        wrongYard("heap 1 x", 7);
        wrongYard("fire 101", 5);
        wrongYard("rats 101", 5);
        wrongYard("rats", 4);
        wrongYard("till 1000", 5);
        wrongYard("till", 4);
        wrongYard("day 1000", 4);
        wrongYard("day x", 4);
        wrongYard("smoke 1", 6);
        wrongYard("fire 5;rats 5;till 5;heap 1 5;cart hold 1 goes 1;sieve 2;contract 1 to 1 many 1 pays 1;"
                + "street at 2 2 mix 222222;smoke;law", 118);
    }

    private static String times(int n, String line) {
        StringBuilder out = new StringBuilder(line);
        for (int i = 1; i < n; i++) {
            out.append(';').append(line);
        }
        return out.toString();
    }

    private static void yardLimits() {
        String street = "street at 1 1 mix 000000";
        DustYard yard = Check.made(times(14, "fire 7"), null);
        Check.is("14 lines", yard.count(6), 7);
        wrongYard(times(15, "fire 7"), 98);
        wrongYard(times(14, "fire 7") + "; ", 99);
        wrongYard(times(14, "fire 7") + " ;  5", 101);
        wrongYard(times(7, street), 150);
        wrongYard(times(4, "cart hold 1 goes 1"), 57);
        wrongYard(times(5, "sieve 2"), 32);
        wrongYard(times(7, "contract 1 to 1 many 1 pays 1"), 180);
        Check.addYard(yard, times(7, street));
        Check.tell(yard, street);
        Check.refuses(yard, "an 8th street", IllegalArgumentException.class, yard::yard);
        Check.is("at its first word", yard.fault(), 0);
        Check.addYard(yard, times(3, "cart hold 1 goes 1") + ";" + times(4, "sieve 3"));
        Check.addYard(yard, times(6, "contract 1 to 1 many 1 pays 1"));
        Check.is("7, 3, 4, 6", yard.count(0) * 1000 + yard.count(1) * 100 + yard.count(2) * 10 + yard.count(3), 7346);
        Check.tell(yard, "fire 8;cart hold 1 goes 1");
        Check.refuses(yard, "a 4th cart", IllegalArgumentException.class, yard::yard);
        Check.is("at its first word", yard.fault(), 7);
        Check.tell(yard, "sieve 9");
        Check.refuses(yard, "a 5th sieve", IllegalArgumentException.class, yard::yard);
        Check.is("its word comes ahead of its number", yard.fault(), 0);
        Check.tell(yard, "contract");
        Check.refuses(yard, "a 7th contract", IllegalArgumentException.class, yard::yard);
        Check.is("its word comes ahead of the end", yard.fault(), 0);
        for (int text = 5; text <= 12; text++) {
            Check.is("text " + text, Check.addYard(yard, ""), text);
        }
        Check.tell(yard, "fire 8");
        Check.refuses(yard, "a 13th text", UnsupportedOperationException.class, yard::yard);
        Check.is("the tape is used up", yard.end(1), false);
        Check.tell(yard, "fire 800");
        Check.refuses(yard, "a wrong 13th text", IllegalArgumentException.class, yard::yard);
        Check.is("its fault", yard.fault(), 5);
        Check.tell(yard, "");
        Check.refuses(yard, "an empty 13th text", UnsupportedOperationException.class, yard::yard);
        Check.is("the latest text was right", yard.fault(), -1);
        Check.is("a law is no text of the yard", Check.addLaw(yard, "more 1"), 1);
    }

    private static void lawLines() {
        DustYard yard = Check.made("street at 5 4 mix 120304 waits 19;street at 5 5 mix 000000 waits 20;till 50;day 250", null);
        Check.is("no law", yard.count(5), -1);
        Check.is("FILLS without one", yard.street(0, 4), 1);
        Check.is("TOLL without one", yard.street(0, 5), 0);
        Check.is("three lines", Check.addLaw(yard, " more 5 ; less 2;toll 99 "), 3);
        Check.is("count", yard.count(5), 3);
        Check.is("FILLS", yard.street(0, 4), 4);
        Check.is("TOLL", yard.street(0, 5), 99);
        Check.is("in place of the one before", Check.addLaw(yard, "less 3;more 1;toll 1;toll 2"), 4);
        Check.is("FILLS are 0 at least", yard.street(0, 4), 0);
        Check.is("TOLL", yard.street(0, 5), 3);
        Check.is("less by more", Check.addLaw(yard, "less 9;more 9"), 2);
        Check.is("by the sums, not one behind another", yard.street(0, 4), 1);
        Check.is("12 lines", Check.addLaw(yard, times(12, "more 99")), 12);
        Check.is("FILLS", yard.street(0, 4), 1189);
        Check.is("nothing more", Check.addLaw(yard, "more 0;less 0;toll 0"), 3);
        Check.is("FILLS", yard.street(0, 4), 1);
        Check.is("as long as the tape", Check.addLaw(yard, "toll 9 if x<" + "1+".repeat(193) + "1"), 1);
        Check.is("TOLL", yard.street(0, 5), 9);
        Check.is("an empty law", Check.addLaw(yard, ""), 0);
        Check.is("has no line", yard.count(5), 0);
        Check.is("FILLS", yard.street(0, 4), 1);
    }

    /** Whether a condition holds of STREETS 0 and 1, as bits. */
    private static void holds(String condition, int due) {
        DustYard yard = Check.made(
                "street at 5 4 mix 120304 waits 19;street at 5 5 mix 000000 waits 20;till 50;day 250", "toll 1 if " + condition);
        Check.is(condition, yard.street(0, 5) + 2 * yard.street(1, 5), due);
    }

    private static void lawWords() {
        holds("smoke", 0);
        holds("not smoke", 3);
        holds("far", 2);
        holds("full", 2);
        holds("street<1", 1);
        holds("street>0", 2);
        holds("x>4", 3);
        holds("x>5", 0);
        holds("x<6", 3);
        holds("y<5", 1);
        holds("y>4", 2);
        holds("waits<20", 1);
        holds("waits>19", 2);
        holds("loads>9", 1);
        holds("loads>10", 0);
        holds("loads<1", 2);
        holds("till<51", 3);
        holds("till<50", 0);
        holds("till>49", 3);
        holds("day<51", 3);
        holds("day>50", 0);
        holds("1+2<4", 3);
        holds("1+2<3", 0);
        holds("3>1+1", 3);
        holds("2>1+1", 0);
        holds("x+y+waits>28", 2);
        holds("x + y + 1 + 1 < 12", 1);
        holds("999>998", 3);
        holds("007>6", 3);
        // and binds more than or, not more than both.
        holds("far and smoke or full", 2);
        holds("full or far and smoke", 2);
        holds("(full or x>4) and smoke", 0);
        holds("not far and full", 0);
        holds("not (far and full)", 1);
        holds("not far or full", 3);
        holds("not street<1 and x>4", 2);
        holds("not not far", 2);
        holds("not(not(far))", 2);
        holds("street>0 or street<1", 3);
        holds("smoke or smoke or x>4", 3);
        holds("x>4 and x>4 and far", 2);
        holds("x>4 and far or smoke and x>4 or street<1", 3);
        holds("((((((far))))))", 2);
        holds("far or (full and (smoke or not (x<5)))", 2);
        DustYard days = Check.made("street at 1 1 mix 000000;day 99", "toll 3 if day>98");
        Check.is("day 99", days.street(0, 5), 3);
        days.days(1);
        Check.is("day 100", days.street(0, 5), 0);
        DustYard yard = Check.made("street at 1 1 mix 000000;smoke;fire 100", "toll 3 if smoke;more 7 if not smoke");
        Check.is("TOLL by smoke", yard.street(0, 5), 3);
        Check.is("FILLS by smoke", yard.street(0, 4), 1);
        yard.douse();
        Check.is("TOLL without", yard.street(0, 5), 0);
        Check.is("FILLS without", yard.street(0, 4), 8);
    }

    private static void wrongLaw(String text, int at) {
        DustYard yard = Check.made("street at 1 1 mix 111111 waits 3", "more 1;toll 5 if smoke");
        yard.tip(0);
        Check.tell(yard, text);
        Check.refuses(yard, text, IllegalArgumentException.class, yard::law);
        Check.is("fault of: " + text, yard.fault(), at);
        Check.is("used up: " + text, yard.end(1), false);
    }

    private static void lawFaults() {
        wrongLaw(";", 0);
        wrongLaw("more", 4);
        wrongLaw("more 100", 5);
        wrongLaw("more 0001", 5);
        wrongLaw("more x", 5);
        wrongLaw("mores 1", 0);
        wrongLaw("sieve 2", 0);
        wrongLaw("more 1;", 7);
        wrongLaw("more 1;more", 11);
        wrongLaw("more 1 more 1", 7);
        wrongLaw("more 1 if", 9);
        wrongLaw("more 1 if ", 10);
        wrongLaw("more 1 if;", 9);
        wrongLaw("more 1 iffar", 7);
        wrongLaw("more 1 if farz", 10);
        wrongLaw("more 1 if afar", 10);
        wrongLaw("more 1 if near", 10);
        wrongLaw("more 1 if x", 11);
        wrongLaw("more 1 if x;", 11);
        wrongLaw("more 1 if x and far", 12);
        wrongLaw("more 1 if x=1", 11);
        wrongLaw("more 1 if x<", 12);
        wrongLaw("more 1 if x<far", 12);
        wrongLaw("more 1 if x<1<2", 13);
        wrongLaw("more 1 if x<1 2", 14);
        wrongLaw("more 1 if x+", 12);
        wrongLaw("more 1 if x+<1", 12);
        wrongLaw("more 1 if x<y+", 14);
        wrongLaw("more 1 if 1000>x", 10);
        wrongLaw("more 1 if x<1000", 12);
        wrongLaw("more 1 if x<1+smoke", 14);
        wrongLaw("more 1 if far or", 16);
        wrongLaw("more 1 if far and", 17);
        wrongLaw("more 1 if far and or", 18);
        wrongLaw("more 1 if far far", 14);
        wrongLaw("more 1 if not", 13);
        wrongLaw("more 1 if (far", 14);
        wrongLaw("more 1 if (far;", 14);
        wrongLaw("more 1 if far)", 13);
        wrongLaw("more 1 if ()", 11);
        wrongLaw("more 1 if (x)<2", 12);
        wrongLaw("more 1 if (x+1)<2", 14);
        wrongLaw("more 1 if x<(1)", 12);
        wrongLaw("more 1 if far" + (char) 200, 13);
        wrongLaw(times(13, "more 1"), 84);
        wrongLaw(times(12, "more 1") + ";", 84);
        wrongLaw(times(12, "more 1") + ";  ", 86);
    }

    private static void lawDepth() {
        holds("not not not not not not far", 2);
        holds("not (not (not (far)))", 1);
        holds("(((far) and ((((full)))))) and (((((far)))))", 2);
        wrongLaw("more 1 if not not not not not not not far", 34);
        wrongLaw("more 1 if (((((((far)))))))", 16);
        wrongLaw("more 1 if not (not (not (not far)))", 25);
        wrongLaw("more 1 if ((((((not far))))))", 16);
        wrongLaw("more 1 if far or ((((((far and (", 31);
    }

    private static void faultOfTheLatest() {
        DustYard yard = new DustYard();
        Check.is("ahead of any", yard.fault(), -1);
        Check.tell(yard, "more 1 if far far");
        Check.refuses(yard, "a wrong law", IllegalArgumentException.class, yard::law);
        Check.is("of the law", yard.fault(), 14);
        Check.tell(yard, 9, 9, 9);
        Check.refuses(yard, "no text", IllegalArgumentException.class, yard::from);
        Check.is("a tape that is no text", yard.fault(), 14);
        yard.image();
        Check.addYard(yard, "fire 1");
        Check.is("of a right one", yard.fault(), -1);
        Check.tell(yard, "fire");
        Check.refuses(yard, "a wrong text", IllegalArgumentException.class, yard::yard);
        Check.is("back", yard.back(), true);
        Check.is("going back leaves it", yard.fault(), 4);
        yard.douse();
        Check.is("undo", yard.undo(), true);
        Check.is("undoing leaves it", yard.fault(), 4);
        Check.addLaw(yard, "");
        Check.is("of an empty one", yard.fault(), -1);
    }
}
