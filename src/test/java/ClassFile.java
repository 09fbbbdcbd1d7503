import java.io.ByteArrayInputStream;
import java.io.DataInputStream;
import java.io.IOException;
import java.io.InputStream;
import java.util.ArrayList;
import java.util.LinkedHashMap;
import java.util.LinkedHashSet;
import java.util.List;
import java.util.Map;
import java.util.Set;

/** A compiled class, as far as the language's rules are looked for in it: what it names, and who calls whom. */
final class ClassFile {
    /** How long each instruction is, from 0 on; 0: that is told by itself. */
    private static final String LENGTHS = "1111111111111111" + "23233" + "22222" + "1".repeat(28) + "22222"
        + "1".repeat(73) + "3" + "1".repeat(20) + "3".repeat(16) + "2" + "00" + "111111" + "3333333" + "5" + "5"
        + "3" + "2" + "3" + "11" + "33" + "11" + "0" + "4" + "33" + "55";
    private static final int TABLE = 170, LOOKUP = 171, FIRST_CALL = 182, LAST_CALL = 185, WIDE = 196, ADD_TO = 132;

    private final String name;
    private final String[] words;
    private final int[][] pairs;
    private final Set<String> members = new LinkedHashSet<>();
    private final Map<String, Set<String>> calls = new LinkedHashMap<>();
    private boolean isPutTogetherAsItRuns = false;

    private ClassFile(DataInputStream in, String name) throws IOException {
        this.name = name;
        in.readLong();
        int n = in.readUnsignedShort();
        words = new String[n];
        pairs = new int[n][];
        readConstants(in, n);
        in.readUnsignedShort();
        in.readInt();
        in.skipNBytes(2L * in.readUnsignedShort());
        readMembers(in, false);
        readMembers(in, true);
    }

    static ClassFile of(Class<?> c) throws IOException {
        try (InputStream in = c.getResourceAsStream("/" + c.getName() + ".class")) {
            return new ClassFile(new DataInputStream(in), c.getName());
        }
    }

    /** Each field and method that it names, as Owner.name and what it takes and answers. */
    Set<String> named() {
        return members;
    }

    /** Its methods, as Owner.name and what each takes and answers; the ones that each of these calls. */
    Map<String, Set<String>> calls() {
        return calls;
    }

    boolean isPutTogetherAsItRuns() {
        return isPutTogetherAsItRuns;
    }

    private void readConstants(DataInputStream in, int n) throws IOException {
        List<Integer> named = new ArrayList<>();
        for (int i = 1; i < n; i++) {
            int tag = in.readUnsignedByte();
            switch (tag) {
                case 1: words[i] = in.readUTF(); break;
                case 3: case 4: in.readInt(); break;
                case 5: case 6: in.readLong(); i++; break;
                case 7: case 8: case 16: case 19: case 20: pairs[i] = new int[] {in.readUnsignedShort()}; break;
                case 15: in.readUnsignedByte(); in.readUnsignedShort(); break;
                default: pairs[i] = new int[] {in.readUnsignedShort(), in.readUnsignedShort()}; break;
            }
            isPutTogetherAsItRuns |= tag == 17 || tag == 18;
            if (tag >= 9 && tag <= 11) {
                named.add(i);
            }
        }
        for (int i : named) {
            members.add(member(i));
        }
    }

    private String member(int i) {
        int[] called = pairs[pairs[i][1]];
        return words[pairs[pairs[i][0]][0]] + "." + words[called[0]] + words[called[1]];
    }

    private void readMembers(DataInputStream in, boolean areMethods) throws IOException {
        int n = in.readUnsignedShort();
        for (int i = 0; i < n; i++) {
            in.readUnsignedShort();
            String member = name + "." + words[in.readUnsignedShort()] + words[in.readUnsignedShort()];
            int attributes = in.readUnsignedShort();
            for (int a = 0; a < attributes; a++) {
                String attribute = words[in.readUnsignedShort()];
                byte[] bytes = in.readNBytes(in.readInt());
                if (areMethods && attribute.equals("Code")) {
                    calls.put(member, calledIn(bytes));
                }
            }
        }
    }

    private Set<String> calledIn(byte[] attribute) throws IOException {
        DataInputStream in = new DataInputStream(new ByteArrayInputStream(attribute));
        in.readInt();
        byte[] code = in.readNBytes(in.readInt());
        Set<String> called = new LinkedHashSet<>();
        for (int at = 0; at < code.length; at += length(code, at)) {
            int instruction = code[at] & 255;
            if (instruction >= FIRST_CALL && instruction <= LAST_CALL) {
                called.add(member((code[at + 1] & 255) << 8 | code[at + 2] & 255));
            }
        }
        return called;
    }

    private static int length(byte[] code, int at) {
        int rows = (at / 4 + 1) * 4;
        switch (code[at] & 255) {
            case TABLE: return rows - at + 12 + 4 * (number(code, rows + 8) - number(code, rows + 4) + 1);
            case LOOKUP: return rows - at + 8 + 8 * number(code, rows + 4);
            case WIDE: return (code[at + 1] & 255) == ADD_TO ? 6 : 4;
            default: return LENGTHS.charAt(code[at] & 255) - '0';
        }
    }

    private static int number(byte[] code, int at) {
        return (code[at] & 255) << 24 | (code[at + 1] & 255) << 16 | (code[at + 2] & 255) << 8 | code[at + 3] & 255;
    }
}
