import java.io.DataInputStream;
import java.io.IOException;
import java.util.ArrayList;
import java.util.HashMap;
import java.util.HashSet;
import java.util.List;
import java.util.Map;
import java.util.Set;
import java.util.TreeMap;
import java.util.TreeSet;

/** Rules 4, 6, 8 and 11 of LANGUAGE.md, as the compiled classes show them: who calls whom, and that nothing is thrown. */
public final class CallsTest {
    private static final int DEEPEST = 8;
    private static final Set<String> LIBRARY = Set.of("java/lang/Object.<init>", "java/lang/String.length", "java/lang/String.charAt",
        "java/lang/String.indexOf", "java/lang/Math.max", "java/lang/Math.min", "java/util/Arrays.fill");

    private static final Map<String, Set<String>> CALLS = new TreeMap<>();
    private static final Map<String, Integer> DEPTHS = new HashMap<>();

    public static void main(String[] args) throws IOException {
        List<Class<?>> classes = new ArrayList<>(List.of(TaintHouse.class));
        classes.addAll(List.of(TaintHouse.class.getDeclaredClasses()));
        for (Class<?> one : classes) {
            new Reader(one).read();
        }
        Bench.due("methods were seen", CALLS.size() > 100, true);
        Set<String> library = new TreeSet<>();
        for (Map.Entry<String, Set<String>> method : CALLS.entrySet()) {
            Bench.due("calls within calls from " + method.getKey(), depth(method.getKey(), new HashSet<>()) <= DEEPEST, true);
            for (String called : method.getValue()) {
                if (!called.startsWith("TaintHouse")) {
                    library.add(called.replaceAll("\\(.*", ""));
                }
            }
        }
        for (String called : library) {
            Bench.due("LANGUAGE.md lists " + called, LIBRARY.contains(called), true);
        }
        Bench.finish();
    }

    /** How many of the class's own methods stand open at most, with this one. */
    private static int depth(String method, Set<String> open) {
        if (DEPTHS.containsKey(method)) {
            return DEPTHS.get(method);
        }
        if (!open.add(method)) {
            Bench.due("recursion of " + method, true, false);
            return DEEPEST;
        }
        int below = 0;
        for (String called : CALLS.getOrDefault(method, Set.of())) {
            if (called.startsWith("TaintHouse")) {
                below = Math.max(below, depth(called, open));
            }
        }
        open.remove(method);
        DEPTHS.put(method, below + 1);
        return below + 1;
    }

    /** Reads a class file as far as the instructions of its methods. */
    private static final class Reader {
        private final String name;
        private final DataInputStream in;
        private String[] texts;
        private int[][] pairs;

        Reader(Class<?> read) {
            name = read.getName();
            in = new DataInputStream(read.getResourceAsStream("/" + read.getName() + ".class"));
        }

        void read() throws IOException {
            in.readLong();
            readConstants();
            in.readUnsignedShort();
            in.readUnsignedShort();
            in.readUnsignedShort();
            in.skipNBytes(2 * in.readUnsignedShort());
            readMembers(false);
            readMembers(true);
            in.close();
        }

        private void readConstants() throws IOException {
            int count = in.readUnsignedShort();
            texts = new String[count];
            pairs = new int[count][2];
            for (int i = 1; i < count; i++) {
                int tag = in.readUnsignedByte();
                switch (tag) {
                    case 1: texts[i] = in.readUTF(); break;
                    case 3: case 4: in.readInt(); break;
                    case 5: case 6: in.readLong(); i++; break;
                    case 7: case 8: case 16: case 19: case 20: pairs[i][0] = in.readUnsignedShort(); break;
                    case 15: in.readUnsignedByte(); in.readUnsignedShort(); break;
                    default: pairs[i][0] = in.readUnsignedShort(); pairs[i][1] = in.readUnsignedShort(); break;
                }
            }
        }

        private void readMembers(boolean methods) throws IOException {
            for (int left = in.readUnsignedShort(); left > 0; left--) {
                in.readUnsignedShort();
                String member = name + "." + texts[in.readUnsignedShort()] + texts[in.readUnsignedShort()];
                for (int attributes = in.readUnsignedShort(); attributes > 0; attributes--) {
                    String attribute = texts[in.readUnsignedShort()];
                    int length = in.readInt();
                    if (methods && attribute.equals("Code")) {
                        readCode(member);
                    } else {
                        in.skipNBytes(length);
                    }
                }
            }
        }

        private void readCode(String method) throws IOException {
            in.readInt();
            byte[] code = new byte[in.readInt()];
            in.readFully(code);
            Set<String> called = new TreeSet<>();
            CALLS.put(method, called);
            for (int at = 0; at < code.length; at += lengthAt(code, at)) {
                int op = code[at] & 255;
                Bench.due("an instruction of " + method + " that throws or runs what stands nowhere", op == 191 || op == 186, false);
                if (op >= 182 && op <= 185) {
                    called.add(memberAt((code[at + 1] & 255) << 8 | code[at + 2] & 255));
                }
            }
            int catches = in.readUnsignedShort();
            Bench.due("what is caught in " + method, catches, 0);
            in.skipNBytes(8L * catches);
            for (int attributes = in.readUnsignedShort(); attributes > 0; attributes--) {
                in.readUnsignedShort();
                in.skipNBytes(in.readInt());
            }
        }

        private String memberAt(int constant) {
            int[] both = pairs[pairs[constant][1]];
            return texts[pairs[pairs[constant][0]][0]] + "." + texts[both[0]] + texts[both[1]];
        }

        private static int lengthAt(byte[] code, int at) {
            int op = code[at] & 255;
            int numbers = (at & ~3) + 4;
            if (op == 170) {
                return numbers + 12 + 4 * (numberAt(code, numbers + 8) - numberAt(code, numbers + 4) + 1) - at;
            }
            if (op == 171) {
                return numbers + 8 + 8 * numberAt(code, numbers + 4) - at;
            }
            if (op == 196) {
                return (code[at + 1] & 255) == 132 ? 6 : 4;
            }
            if (op == 16 || op == 18 || op >= 21 && op <= 25 || op >= 54 && op <= 58 || op == 169 || op == 188) {
                return 2;
            }
            if (op == 17 || op == 19 || op == 20 || op == 132 || op >= 153 && op <= 168 || op >= 178 && op <= 184 || op == 187 || op == 189
                    || op == 192 || op == 193 || op == 198 || op == 199) {
                return 3;
            }
            return op == 197 ? 4 : op == 185 || op == 186 || op == 200 || op == 201 ? 5 : 1;
        }

        private static int numberAt(byte[] code, int at) {
            int number = 0;
            for (int i = at; i < at + 4; i++) {
                number = number << 8 | code[i] & 255;
            }
            return number;
        }
    }
}
