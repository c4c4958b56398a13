import java.nio.charset.StandardCharsets;

/** What the tests share: telling texts, comparing answers, and seeing that a refused call changed nothing. */
final class Check {
    private static int wrong = 0;
    private static String sentence = "";

    private Check() {
    }

    /** A call that may throw. */
    interface Call {
        long answer();
    }

    /** A call that answers nothing. */
    interface Act {
        void run();
    }

    /** What is looked at from here on, in words of the document: told with each answer that is not as due. */
    static void sentence(String words) {
        sentence = "\"" + words + "\" ";
    }

    static void is(String what, long got, long want) {
        if (got != want) {
            wrong++;
            System.out.println(sentence + what + " answered " + got + ", due is " + want);
        }
    }

    static void is(String what, boolean got, boolean want) {
        is(what, got ? 1 : 0, want ? 1 : 0);
    }

    static void same(String what, String got, String want) {
        if (!got.equals(want)) {
            wrong++;
            System.out.println(sentence + what + ": " + got + ", due is " + want);
        }
    }

    /** The call throws just this class (a class below it is the machine's), and changes nothing that can be seen. */
    static void refuses(DustYard yard, String what, Class<? extends RuntimeException> want, Call call) {
        String before = seen(yard);
        String got;
        try {
            got = "answered " + call.answer();
        } catch (RuntimeException e) {
            got = e.getClass().getName();
        }
        same(what, got, want.getName());
        same(what + " changed something", seen(yard), before);
    }

    /** As refuses, of a call that reads the TAPE: that is used up, and nothing else is otherwise. */
    static void refusesTape(DustYard yard, String what, Class<? extends RuntimeException> want, Call call) {
        refuses(yard, what, want, call);
        is(what + ": the tape is used up", yard.end(1), false);
    }

    static void refusesAct(DustYard yard, String what, Class<? extends RuntimeException> want, Act act) {
        refuses(yard, what, want, () -> {
            act.run();
            return 0;
        });
    }

    /** A new yard of a text of THE YARD and one of THE LAW; no text for null. */
    static DustYard made(String yardText, String lawText) {
        DustYard yard = new DustYard();
        if (yardText != null) {
            addYard(yard, yardText);
        }
        if (lawText != null) {
            addLaw(yard, lawText);
        }
        return yard;
    }

    static int addYard(DustYard yard, String text) {
        tell(yard, text);
        return yard.yard();
    }

    static int addLaw(DustYard yard, String text) {
        tell(yard, text);
        return yard.law();
    }

    static void tell(DustYard yard, String text) {
        byte[] bytes = text.getBytes(StandardCharsets.ISO_8859_1);
        int[] numbers = new int[bytes.length];
        for (int i = 0; i < bytes.length; i++) {
            numbers[i] = bytes[i] & 255;
        }
        tell(yard, numbers);
    }

    static void tell(DustYard yard, int... bytes) {
        yard.end(0);
        int[] words = new int[(bytes.length + 19) / 20 * 5];
        for (int i = 0; i < bytes.length; i++) {
            words[i / 4] |= (bytes[i] & 255) << 24 - i % 4 * 8;
        }
        for (int i = 0; i < words.length; i += 5) {
            yard.feed(words[i], words[i + 1], words[i + 2], words[i + 3], words[i + 4]);
        }
        if (!yard.end(bytes.length)) {
            throw new IllegalStateException("the tape is too short for a test's text");
        }
    }

    /** All that can be seen of a yard without an act, but for the TAPE and fault(). */
    static String seen(DustYard yard) {
        StringBuilder out = new StringBuilder();
        for (int what = 0; what <= 12; what++) {
            out.append(yard.count(what)).append(' ');
        }
        for (int street = 0; street < yard.count(0); street++) {
            out.append("\nstreet");
            for (int what = 0; what <= 7; what++) {
                out.append(' ').append(yard.street(street, what));
            }
            for (int grain = 1; grain <= 6; grain++) {
                out.append(' ').append(yard.mix(street, grain));
            }
        }
        for (int cart = 0; cart < yard.count(1); cart++) {
            out.append("\ncart ").append(yard.cart(cart, 0)).append(' ').append(yard.cart(cart, 1));
        }
        for (int sieve = 0; sieve < yard.count(2); sieve++) {
            out.append("\nsieve ").append(yard.mesh(sieve));
        }
        for (int contract = 0; contract < yard.count(3); contract++) {
            out.append("\ncontract");
            for (int what = 0; what <= 4; what++) {
                out.append(' ').append(yard.contract(contract, what));
            }
        }
        out.append("\nheap");
        for (int grain = 1; grain <= 6; grain++) {
            out.append(' ').append(yard.heap(grain));
        }
        for (int ago = 0; ago <= yard.count(11); ago++) {
            out.append("\nlog");
            for (int what = 0; what <= 4; what++) {
                out.append(' ').append(yard.log(ago, what));
            }
        }
        int seed = yard.seed(0);
        yard.seed(seed);
        return out.append("\nseed ").append(seed).toString();
    }

    /** Ends a test: exit code 1 if an answer was wrong. */
    static void end() {
        if (wrong != 0) {
            System.out.println(wrong + " answers are not as due");
            System.exit(1);
        }
    }
}
