import java.io.DataInputStream;
import java.io.IOException;
import java.io.InputStream;
import java.util.ArrayList;
import java.util.List;
import java.util.Set;
import java.util.TreeSet;

/** Rule 4 of LANGUAGE.md, looked at in the compiled classes: what of the library the program calls. */
public final class LibraryTest {
    private static final Set<String> ALLOWED = Set.of(
            "java/lang/Object.<init>", "java/lang/IllegalStateException.<init>", "java/lang/IllegalArgumentException.<init>",
            "java/lang/IndexOutOfBoundsException.<init>", "java/lang/ArithmeticException.<init>", "java/lang/RuntimeException.<init>",
            "java/lang/UnsupportedOperationException.<init>", "java/util/NoSuchElementException.<init>", "java/lang/String.length",
            "java/lang/String.charAt", "java/lang/System.arraycopy", "java/lang/Math.max", "java/lang/Math.min", "java/lang/Math.abs",
            "java/lang/Integer.bitCount");

    private LibraryTest() {
    }

    public static void main(String[] args) throws IOException {
        List<Class<?>> classes = new ArrayList<>(List.of(DustYard.class.getDeclaredClasses()));
        classes.add(DustYard.class);
        Check.is("classes are found", classes.size() > 1, true);
        Set<String> used = new TreeSet<>();
        for (Class<?> one : classes) {
            used.addAll(membersUsed(one));
        }
        Check.is("throws of its own are found", used.contains("java/lang/IllegalArgumentException.<init>"), true);
        for (String member : used) {
            Check.is("the program uses " + member, !member.startsWith("java") || ALLOWED.contains(member), true);
        }
        Check.end();
    }

    /** Fields and methods that a class names, its own too, by the pool of constants in its file. */
    private static Set<String> membersUsed(Class<?> of) throws IOException {
        try (InputStream file = of.getResourceAsStream(of.getName() + ".class")) {
            DataInputStream in = new DataInputStream(file);
            in.skipBytes(8);
            int size = in.readUnsignedShort();
            int[] tags = new int[size];
            int[][] points = new int[size][2];
            String[] texts = new String[size];
            for (int i = 1; i < size; i++) {
                tags[i] = in.readUnsignedByte();
                switch (tags[i]) {
                    case 1 -> texts[i] = in.readUTF();
                    case 3, 4 -> in.readInt();
                    case 5, 6 -> {
                        in.readLong();
                        i++;
                    }
                    case 7, 8, 16, 19, 20 -> points[i][0] = in.readUnsignedShort();
                    case 9, 10, 11, 12, 17, 18 -> {
                        points[i][0] = in.readUnsignedShort();
                        points[i][1] = in.readUnsignedShort();
                    }
                    case 15 -> in.skipBytes(3);
                    default -> throw new IOException("a constant of kind " + tags[i]);
                }
            }
            Set<String> used = new TreeSet<>();
            for (int i = 1; i < size; i++) {
                if (tags[i] >= 9 && tags[i] <= 11) {
                    used.add(texts[points[points[i][0]][0]] + "." + texts[points[points[i][1]][0]]);
                }
            }
            return used;
        }
    }
}
