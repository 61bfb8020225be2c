import java.io.DataInputStream;
import java.io.IOException;
import java.io.InputStream;
import java.util.Map;
import java.util.Set;
import java.util.TreeMap;
import java.util.TreeSet;

/** What a compiled class calls and makes, read from its class file as the machine's specification tells it (chapter 4). */
final class ClassCode {
    private static final int INVOKE_VIRTUAL = 182;
    private static final int INVOKE_INTERFACE = 185;
    private static final int INVOKE_DYNAMIC = 186;
    private static final int NEW = 187;
    private static final int NEW_OBJECTS = 189;
    private static final int THROW = 191;
    private static final int CAST = 192;
    private static final int INSTANCE_OF = 193;
    private static final int MONITOR_ENTER = 194;
    private static final int MONITOR_EXIT = 195;
    private static final int WIDE = 196;
    private static final int NEW_OF_DIMENSIONS = 197;
    private static final int TABLE_SWITCH = 170;
    private static final int LOOKUP_SWITCH = 171;

    /** How long instructions are but for the switches and wide ones, a digit each, from 0 to 201. */
    private static final String LENGTHS = "1".repeat(16) + "23" + "233" + "2".repeat(5) + "1".repeat(28) + "2".repeat(5)
        + "1".repeat(28) + "1".repeat(45) + "3" + "1".repeat(20) + "3".repeat(16) + "2" + "00" + "1".repeat(6) + "3".repeat(7)
        + "55" + "3" + "2" + "3" + "11" + "33" + "11" + "0" + "4" + "33" + "55";

    /** By method, what it calls: all as owner.name and kinds. */
    final Map<String, Set<String>> calls = new TreeMap<>();
    final Set<String> made = new TreeSet<>();
    final Set<String> strange = new TreeSet<>();

    private Object[] pool;
    private int[] kinds;
    private String name;

    static ClassCode of(Class<?> c) throws IOException {
        ClassCode code = new ClassCode();
        String file = "/" + c.getName().replace('.', '/') + ".class";
        try (InputStream in = ClassCode.class.getResourceAsStream(file)) {
            code.read(new DataInputStream(in));
        }
        return code;
    }

    private void read(DataInputStream in) throws IOException {
        in.skipBytes(8);
        readPool(in);
        in.readUnsignedShort();
        name = className(in.readUnsignedShort());
        in.readUnsignedShort();
        int interfaces = in.readUnsignedShort();
        in.skipBytes(2 * interfaces);
        readMembers(in, false);
        readMembers(in, true);
    }

    private void readPool(DataInputStream in) throws IOException {
        int size = in.readUnsignedShort();
        pool = new Object[size];
        kinds = new int[size];
        for (int i = 1; i < size; i++) {
            kinds[i] = in.readUnsignedByte();
            switch (kinds[i]) {
                case 1 -> pool[i] = in.readUTF();
                case 3, 4 -> in.readInt();
                case 5, 6 -> {
                    in.readLong();
                    i++;
                }
                case 7, 8, 16, 19, 20 -> pool[i] = new int[] {in.readUnsignedShort()};
                case 15 -> {
                    in.readUnsignedByte();
                    in.readUnsignedShort();
                }
                default -> pool[i] = new int[] {in.readUnsignedShort(), in.readUnsignedShort()};
            }
        }
    }

    private int part(int at, int which) {
        return ((int[]) pool[at])[which];
    }

    private String className(int at) {
        return (String) pool[part(at, 0)];
    }

    private String memberName(int at) {
        int both = part(at, 1);
        return className(part(at, 0)) + "." + pool[part(both, 0)] + pool[part(both, 1)];
    }

    private void readMembers(DataInputStream in, boolean areMethods) throws IOException {
        int many = in.readUnsignedShort();
        for (int i = 0; i < many; i++) {
            in.readUnsignedShort();
            String member = name + "." + pool[in.readUnsignedShort()] + pool[in.readUnsignedShort()];
            if (areMethods) {
                calls.put(member, new TreeSet<>());
            }
            int attributes = in.readUnsignedShort();
            for (int a = 0; a < attributes; a++) {
                boolean isCode = pool[in.readUnsignedShort()].equals("Code");
                byte[] bytes = new byte[in.readInt()];
                in.readFully(bytes);
                if (isCode) {
                    readCode(member, bytes);
                }
            }
        }
    }

    private static int two(byte[] b, int at) {
        return (b[at] & 255) << 8 | b[at + 1] & 255;
    }

    private static int four(byte[] b, int at) {
        return two(b, at) << 16 | two(b, at + 2);
    }

    private void readCode(String method, byte[] b) {
        int start = 8;
        int end = start + four(b, 4);
        if (two(b, end) != 0) {
            strange.add(method + " catches");
        }
        int at = start;
        while (at < end) {
            look(method, b, at);
            at += lengthAt(b, at, start);
        }
        if (at != end) {
            strange.add(method + " was not read to its end");
        }
    }

    private static int lengthAt(byte[] b, int at, int start) {
        int op = b[at] & 255;
        int table = at + 4 - (at - start) % 4;
        switch (op) {
            case TABLE_SWITCH:
                return table - at + 12 + 4 * (four(b, table + 8) - four(b, table + 4) + 1);
            case LOOKUP_SWITCH:
                return table - at + 8 + 8 * four(b, table + 4);
            case WIDE:
                return (b[at + 1] & 255) == 132 ? 6 : 4;
            default:
                return LENGTHS.charAt(op) - '0';
        }
    }

    private void look(String method, byte[] b, int at) {
        int op = b[at] & 255;
        if (op >= INVOKE_VIRTUAL && op <= INVOKE_INTERFACE) {
            calls.get(method).add(memberName(two(b, at + 1)));
        } else if (op == NEW || op == NEW_OBJECTS) {
            made.add(className(two(b, at + 1)));
        } else if (op == INVOKE_DYNAMIC) {
            strange.add(method + " has a lambda or joins texts by +");
        } else if (op == THROW) {
            strange.add(method + " throws");
        } else if (op == CAST || op == INSTANCE_OF) {
            strange.add(method + " casts");
        } else if (op == MONITOR_ENTER || op == MONITOR_EXIT) {
            strange.add(method + " locks");
        } else if (op == NEW_OF_DIMENSIONS) {
            strange.add(method + " makes an array of arrays");
        }
    }
}
