import java.io.ByteArrayInputStream;
import java.io.DataInputStream;
import java.io.IOException;
import java.io.InputStream;
import java.nio.ByteBuffer;
import java.util.LinkedHashMap;
import java.util.LinkedHashSet;
import java.util.Map;
import java.util.Set;

/** What a compiled class shows of itself: its methods, which others each calls, how long each is. */
final class Compiled {
    private static final int TABLE_SWITCH = 170, LOOKUP_SWITCH = 171, FIRST_CALL = 182, INVOKE_DYNAMIC = 186;
    private static final int THROW = 191, MONITOR_ENTER = 194, WIDE = 196, INCREMENT = 132;
    /** How many bytes each instruction has: how often, of how many; 0 are the two switches. */
    private static final int[] LENGTHS = {
        16, 1, 1, 2, 1, 3, 1, 2, 2, 3, 5, 2, 28, 1, 5, 2, 73, 1, 1, 3, 20, 1, 16, 3, 1, 2, 2, 0, 6, 1, 7, 3, 2, 5, 1, 3,
        1, 2, 1, 3, 2, 1, 2, 3, 2, 1, 1, 4, 1, 4, 2, 3, 2, 5
    };

    /** Each method with those that it calls, as Owner.name(parameters)answer. */
    final Map<String, Set<String>> calls = new LinkedHashMap<>();
    final Map<String, Integer> lines = new LinkedHashMap<>();
    /** What rule 6 rules out, and calls that only run time binds. */
    final Set<String> ruledOut = new LinkedHashSet<>();
    private final DataInputStream in;
    private Object[] constants;
    private final String owner;

    Compiled(String name) throws IOException {
        try (InputStream file = Compiled.class.getResourceAsStream(name + ".class")) {
            in = new DataInputStream(new ByteArrayInputStream(file.readAllBytes()));
        }
        in.skipBytes(8);
        readConstants();
        in.skipBytes(2);
        owner = text(in.readUnsignedShort());
        in.skipBytes(2);
        in.skipBytes(2 * in.readUnsignedShort());
        readMembers();
        readMembers();
    }

    private void readConstants() throws IOException {
        constants = new Object[in.readUnsignedShort()];
        for (int k = 1; k < constants.length; k++) {
            int tag = in.readUnsignedByte();
            switch (tag) {
                case 1: constants[k] = in.readUTF(); break;
                case 3: case 4: in.skipBytes(4); break;
                case 5: case 6: in.skipBytes(8); k++; break;
                case 7: case 8: case 16: case 19: case 20: constants[k] = in.readUnsignedShort(); break;
                case 15: in.skipBytes(3); break;
                default: constants[k] = new int[] {in.readUnsignedShort(), in.readUnsignedShort()};
            }
        }
    }

    private String text(int k) {
        return constants[k] instanceof Integer at ? text(at) : (String) constants[k];
    }

    private String method(int k) {
        int[] reference = (int[]) constants[k];
        int[] named = (int[]) constants[reference[1]];
        return text(reference[0]) + "." + text(named[0]) + text(named[1]);
    }

    /** Fields or methods; only these have code. */
    private void readMembers() throws IOException {
        int members = in.readUnsignedShort();
        for (int k = 0; k < members; k++) {
            in.skipBytes(2);
            String name = owner + "." + text(in.readUnsignedShort()) + text(in.readUnsignedShort());
            int attributes = in.readUnsignedShort();
            for (int m = 0; m < attributes; m++) {
                boolean code = text(in.readUnsignedShort()).equals("Code");
                int length = in.readInt();
                if (code) {
                    readCode(name);
                } else {
                    in.skipBytes(length);
                }
            }
        }
    }

    private void readCode(String name) throws IOException {
        in.skipBytes(4);
        byte[] code = new byte[in.readInt()];
        in.readFully(code);
        calls.put(name, new LinkedHashSet<>());
        readInstructions(name, ByteBuffer.wrap(code));
        int caught = in.readUnsignedShort();
        if (caught > 0) {
            ruledOut.add("try in " + name);
        }
        in.skipBytes(8 * caught);
        int attributes = in.readUnsignedShort();
        for (int k = 0; k < attributes; k++) {
            boolean numbers = text(in.readUnsignedShort()).equals("LineNumberTable");
            int length = in.readInt();
            if (numbers) {
                readLines(name);
            } else {
                in.skipBytes(length);
            }
        }
    }

    private void readLines(String name) throws IOException {
        int entries = in.readUnsignedShort();
        int first = Integer.MAX_VALUE;
        int last = 0;
        for (int k = 0; k < entries; k++) {
            in.skipBytes(2);
            int line = in.readUnsignedShort();
            first = Math.min(first, line);
            last = Math.max(last, line);
        }
        lines.put(name, last - first + 1);
    }

    private void readInstructions(String name, ByteBuffer code) {
        for (int at = 0; at < code.capacity(); at += length(code, at)) {
            int op = code.get(at) & 255;
            if (op >= FIRST_CALL && op < INVOKE_DYNAMIC) {
                calls.get(name).add(method(code.getShort(at + 1) & 0xFFFF));
            } else if (op == INVOKE_DYNAMIC) {
                ruledOut.add("a lambda, or texts joined by +, in " + name);
            } else if (op == THROW || op == MONITOR_ENTER) {
                ruledOut.add("throw or synchronized in " + name);
            }
        }
    }

    private static int length(ByteBuffer code, int at) {
        int op = code.get(at) & 255;
        int numbers = (at | 3) + 5;
        if (op == TABLE_SWITCH) {
            return numbers + 8 + 4 * (code.getInt(numbers + 4) - code.getInt(numbers) + 1) - at;
        }
        if (op == LOOKUP_SWITCH) {
            return numbers + 4 + 8 * code.getInt(numbers) - at;
        }
        if (op == WIDE) {
            return (code.get(at + 1) & 255) == INCREMENT ? 6 : 4;
        }
        int from = 0;
        int k = 0;
        while (op >= from + LENGTHS[k]) {
            from += LENGTHS[k];
            k += 2;
        }
        return LENGTHS[k + 1];
    }
}
