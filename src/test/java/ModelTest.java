import java.lang.reflect.InvocationTargetException;
import java.lang.reflect.Method;
import java.util.ArrayList;
import java.util.HashMap;
import java.util.List;
import java.util.Map;
import java.util.Random;
import java.util.TreeMap;

/** Long runs of calls by chance (always the same ones), each answer compared with that of Model. */
public final class ModelTest {
    private static final int RUNS = 400;
    private static final int CALLS = 512;
    private static final String[] YARD = {
        "street at 1 2 mix 120301 waits 30", "street at 9 8 mix 000009 waits 99", "street at 0 0 mix 111111", "street at 5 4 mix 120301",
        "street at 5 5 mix 987654 waits 19", "street at 3 0 mix 000000 waits 1", "cart hold 3 goes 40", "cart hold 9 goes 9",
        "cart hold 1 goes 99", "sieve 3", "sieve 5", "sieve 2", "sieve 6", "sieve 4", "contract 1 to 3 many 12 pays 3",
        "contract 4 to 6 many 40 pays 9", "contract 2 to 5 many 3 pays 1", "contract 6 to 6 many 1 pays 0", "heap 1 30", "heap 2 7",
        "heap 3 11", "heap 4 999", "heap 5 3", "heap 6 40", "fire 30", "fire 100", "rats 50", "till 40", "till 999", "day 97", "smoke",
    };
    private static final String[] LAW = {
        "more 2", "less 1", "toll 3", "more 9 if far", "less 2 if full", "toll 1 if smoke", "more 3 if not smoke and x<4",
        "toll 7 if waits>30 or loads<5", "more 1 if day>50", "less 9 if till>100+street", "toll 2 if not (far or not (full and y>3))",
        "more 5 if x+y+1>street+9", "toll 4 if ((x>2 or far) and full) or day<3", "less 1 if not not not not not not far",
    };
    private static final String[] NOISE = {
        "street", "at", "mix", "waits", "cart", "sieve", "not", "(", ")", ";", "+", "<", ">", "1", "12", "1000", "far", "if", "and", "or", " ",
        "x", "\u00ff", "A", "123456", "more", "heap", "7", "0",
    };

    private final Random random;
    private final DustYard yard = new DustYard();
    private final Model model = new Model();
    private final List<String> trail = new ArrayList<>();
    private static final Map<String, Method> METHODS = new HashMap<>();
    private static final Map<String, Integer> SEEN = new TreeMap<>();

    private ModelTest(int run) {
        random = new Random(run);
    }

    public static void main(String[] args) {
        int runs = args.length > 0 ? Integer.parseInt(args[0]) : RUNS;
        int first = args.length > 1 ? Integer.parseInt(args[1]) : 0;
        for (Method method : DustYard.class.getMethods()) {
            if (method.getDeclaringClass() == DustYard.class) {
                METHODS.put(method.getName(), method);
            }
        }
        for (int run = first; run < first + runs; run++) {
            if (!new ModelTest(run).goesWell()) {
                System.out.println("in run " + run);
                System.exit(1);
            }
        }
        for (String name : METHODS.keySet()) {
            Check.is("answers of " + name, SEEN.containsKey(name), true);
        }
        if (args.length > 0) {
            System.out.println(SEEN);
        }
        Check.end();
    }

    private boolean goesWell() {
        int calls = 0;
        boolean right = begins();
        while (calls < CALLS && right) {
            int before = trail.size();
            right = step();
            calls += trail.size() - before;
        }
        return right;
    }

    /** Most runs have streets, carts and contracts from the begin on, so that there is something to look at. */
    private boolean begins() {
        boolean right = true;
        for (int text = upTo(4); text > 0 && right; text--) {
            StringBuilder out = new StringBuilder(line(YARD));
            for (int i = 1 + upTo(6); i > 0; i--) {
                out.append(" ; ").append(line(YARD));
            }
            right = tells(out.toString()) && call("yard");
        }
        return right && tells(line(LAW) + ";" + line(LAW) + ";" + line(LAW)) && call("law");
    }

    private int upTo(int n) {
        return random.nextInt(n + 1);
    }

    /** A number from low to high, now and then one beside. */
    private int about(int low, int high) {
        return switch (random.nextInt(24)) {
            case 0 -> low - 1;
            case 1 -> high + 1;
            case 2 -> random.nextInt();
            default -> low + random.nextInt(high - low + 1);
        };
    }

    private boolean step() {
        switch (random.nextInt(30)) {
            case 0:
                return tells(text(YARD, 14)) && call("yard") && call("fault");
            case 1:
                return tells(text(LAW, 12)) && call("law") && call("fault");
            case 2:
            case 3:
                return tellsRows() && call(new String[] {"from", "likely", "ask"}[random.nextInt(3)]);
            case 4:
                return tellsRows() && (random.nextBoolean() ? call("sift") : call("meshes", upTo(1)));
            case 5:
                return tellsStreets() && call("round");
            case 6:
                return call("undo") && call("count", 12);
            case 7:
                return random.nextInt(4) > 0 || call(random.nextBoolean() ? "image" : "back");
            case 8:
                return call("feed", random.nextInt(), random.nextInt(), 0, 0, -1) && call("end", about(0, 400));
            default:
                return random.nextInt(3) == 0 ? act() : look();
        }
    }

    private boolean act() {
        return switch (random.nextInt(12)) {
            case 0, 1, 2 -> call("days", random.nextInt(4) > 0 ? 1 + upTo(3) : about(1, 60));
            case 3 -> call("tip", about(0, 3));
            case 4 -> call("buy", about(2, 6));
            case 5 -> call("take", about(1, 5), about(3, 6), about(1, 40), about(0, 9));
            case 10 -> call("take", about(5, 6), about(6, 6), about(1, 9), about(0, 9));
            case 6 -> call("drop", about(0, 5));
            case 7 -> call("hire", about(1, 9), about(1, 99));
            case 8 -> call("lay", about(0, 4), about(1, 6), about(0, 9));
            case 9 -> random.nextInt(8) == 0 ? call("seed", random.nextInt()) : call("douse");
            default -> call("fill", about(0, 5));
        };
    }

    private boolean look() {
        return switch (random.nextInt(38)) {
            case 0, 1 -> call("street", about(0, 6), about(0, 7));
            case 2 -> call("mix", about(0, 6), about(1, 6));
            case 3, 4 -> call("cart", about(0, 2), about(0, 4));
            case 5 -> call("mesh", about(0, 3));
            case 6 -> call("contract", about(0, 5), about(0, 4));
            case 7 -> call("heap", about(1, 6));
            case 8 -> call("way", about(-1, 6), about(-1, 6));
            case 9 -> call("classes", about(0, 15));
            case 10 -> call("classOf", about(0, 15), about(1, 6));
            case 11 -> call("held", about(0, 15), about(1, 6));
            case 12 -> call("fewest");
            case 13 -> call("clean", about(0, 5), about(0, 15));
            case 14, 15 -> call("trips", about(0, 99));
            case 16 -> call("worth");
            case 17 -> call("serves");
            case 18, 19 -> call("blend", about(0, 4), about(0, 4), about(1, 6), about(0, 100));
            case 20 -> call("ends");
            case 21 -> call("side");
            case 22 -> call("pairs", about(-1, 5));
            case 23 -> call("share", about(0, 2), about(0, 99));
            case 24 -> call("rests", about(0, 6));
            case 25 -> call("odds", about(0, 5), about(0, 5));
            case 26 -> call("most", about(0, 2));
            case 27 -> call("open", upTo(1));
            case 28 -> call("twins");
            case 29 -> call("wanted", about(1, 6));
            case 30 -> call("ahead", about(-1, 4), about(0, 60));
            case 31 -> call("trial", about(0, 60), upTo(1));
            case 32 -> call("span", about(0, 60), upTo(1));
            case 33 -> call("led", about(0, 4), upTo(1));
            case 34 -> call("log", about(0, 59), about(0, 4));
            case 35 -> call("fault");
            default -> call("count", about(0, 12));
        };
    }

    /** Some lines, in half of the cases with noise in it. */
    private String text(String[] lines, int most) {
        StringBuilder out = new StringBuilder();
        int n = random.nextInt(12) == 0 ? most + upTo(1) : upTo(3);
        for (int i = 0; i < n; i++) {
            out.append(i > 0 ? ";" : "").append(line(lines));
        }
        for (int i = random.nextBoolean() ? 0 : 1 + upTo(1); i > 0 && out.length() > 0; i--) {
            int at = random.nextInt(out.length() + 1);
            switch (random.nextInt(3)) {
                case 0 -> out.insert(at, NOISE[random.nextInt(NOISE.length)]);
                case 1 -> out.setLength(at);
                default -> out.replace(Math.max(0, at - 1), at, random.nextBoolean() ? "" : " ");
            }
        }
        out.setLength(Math.min(400, out.length()));
        return out.toString();
    }

    private String line(String[] lines) {
        if (lines == LAW && random.nextInt(2) == 0) {
            return "toll " + upTo(9) + " if " + condition(0);
        }
        if (lines == YARD && random.nextInt(3) == 0) {
            return "street at " + upTo(9) + " " + upTo(9) + " mix " + (100000 + upTo(899999)) + " waits " + upTo(99);
        }
        return lines[random.nextInt(lines.length)];
    }

    private String condition(int deep) {
        int kind = random.nextInt(deep > 6 ? 5 : 10);
        return switch (kind) {
            case 0 -> "smoke";
            case 1 -> "far";
            case 2 -> "full";
            case 3 -> sum() + "<" + sum();
            case 4 -> sum() + " > " + sum();
            case 5 -> "not " + condition(deep + 1);
            case 6 -> "(" + condition(deep + 1) + ")";
            case 7 -> condition(deep + 2) + " and " + condition(deep + 2);
            case 8 -> condition(deep + 2) + " or " + condition(deep + 2);
            default -> "not (" + condition(deep + 2) + ")";
        };
    }

    private String sum() {
        String[] parts = {"street", "x", "y", "waits", "loads", "till", "day", "" + upTo(99), "" + upTo(9)};
        String part = parts[random.nextInt(parts.length)];
        return random.nextInt(3) == 0 ? part + "+" + sum() : part;
    }

    private boolean tells(String text) {
        int[] bytes = text.chars().toArray();
        return tellsBytes(bytes);
    }

    private boolean tellsRows() {
        int[] bytes = new int[random.nextInt(10) == 0 ? upTo(43) : 2 * upTo(3)];
        boolean wrong = random.nextInt(10) == 0;
        for (int i = 0; i < bytes.length; i++) {
            bytes[i] = i % 2 == 0 ? 1 + upTo(wrong ? 6 : 5) : upTo(wrong ? 10 : 2);
        }
        return tellsBytes(bytes);
    }

    private boolean tellsStreets() {
        int[] bytes = new int[upTo(random.nextInt(5) == 0 ? 7 : 4)];
        for (int i = 0; i < bytes.length; i++) {
            bytes[i] = upTo(random.nextInt(5) == 0 ? 7 : 2);
        }
        return tellsBytes(bytes);
    }

    private boolean tellsBytes(int[] bytes) {
        boolean right = call("end", 0);
        int[] words = new int[(Math.max(0, bytes.length) + 19) / 20 * 5];
        for (int i = 0; i < bytes.length; i++) {
            words[i / 4] |= (bytes[i] & 255) << 24 - i % 4 * 8;
        }
        for (int i = 0; i < words.length && right; i += 5) {
            right = call("feed", words[i], words[i + 1], words[i + 2], words[i + 3], words[i + 4]);
        }
        return right && call("end", bytes.length);
    }

    private boolean call(String name, int... numbers) {
        String want;
        try {
            want = "" + model.call(name, numbers);
            SEEN.merge(name, 1, Integer::sum);
        } catch (RuntimeException e) {
            want = e.getClass().getName();
        }
        String got = answer(name, numbers);
        trail.add(name + java.util.Arrays.toString(numbers) + " -> " + want);
        if (got.equals(want)) {
            return true;
        }
        for (int i = Math.max(0, trail.size() - 40); i < trail.size(); i++) {
            System.out.println(trail.get(i));
        }
        System.out.println("but it answered " + got);
        return false;
    }

    private String answer(String name, int... numbers) {
        Method method = METHODS.get(name);
        Object[] values = new Object[numbers.length];
        for (int i = 0; i < numbers.length; i++) {
            if (method.getParameterTypes()[i] == boolean.class) {
                values[i] = numbers[i] == 1;
            } else {
                values[i] = numbers[i];
            }
        }
        try {
            Object got = method.invoke(yard, values);
            if (got instanceof Boolean is) {
                return is ? "1" : "0";
            }
            return got == null ? "0" : got.toString();
        } catch (InvocationTargetException e) {
            return e.getCause().getClass().getName();
        } catch (IllegalAccessException e) {
            return e.toString();
        }
    }
}
