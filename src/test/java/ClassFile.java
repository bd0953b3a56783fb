import java.io.DataInputStream;
import java.io.IOException;
import java.io.InputStream;
import java.nio.ByteBuffer;
import java.util.ArrayList;
import java.util.List;

/** A compiled class, read as far as the tests ask for it, so that they need no tool but javac and java. */
final class ClassFile {
    static final int PUTSTATIC = 179, INVOKEDYNAMIC = 186, NEW = 187, NEWARRAY = 188, ANEWARRAY = 189, ATHROW = 191,
        CHECKCAST = 192, MONITORENTER = 194, MONITOREXIT = 195, MULTIANEWARRAY = 197;
    private static final int TABLESWITCH = 170, LOOKUPSWITCH = 171, INVOKEVIRTUAL = 182, INVOKEINTERFACE = 185,
        WIDE = 196, IINC = 132;
    /** Where instructions of another length begin, and that length; 0: it is told by the instruction itself. */
    private static final int[][] LENGTHS = {{0, 1}, {16, 2}, {17, 3}, {18, 2}, {19, 3}, {21, 2}, {26, 1}, {54, 2},
        {59, 1}, {132, 3}, {133, 1}, {153, 3}, {169, 2}, {170, 0}, {172, 1}, {178, 3}, {185, 5}, {187, 3}, {188, 2},
        {189, 3}, {190, 1}, {192, 3}, {194, 1}, {196, 0}, {197, 4}, {198, 3}, {200, 5}, {202, 1}};

    /** One instruction; called is "class.method" with dots for slashes if it is a call, else empty. */
    record Step(int code, String called) {
    }

    record Body(String method, int catches, List<Step> steps) {
    }

    private final Object[] pool;
    private final String name;
    private final List<Body> bodies = new ArrayList<>();

    ClassFile(Class<?> read) throws IOException {
        String file = read.getName() + ".class";
        try (InputStream bytes = read.getResourceAsStream(file); DataInputStream in = new DataInputStream(bytes)) {
            in.skipNBytes(8);
            pool = readPool(in);
            in.skipNBytes(2);
            name = className(in.readUnsignedShort());
            in.skipNBytes(2);
            in.skipNBytes(2 * in.readUnsignedShort());
            readMembers(in);
            readMembers(in);
        }
    }

    List<Body> bodies() {
        return bodies;
    }

    private static Object[] readPool(DataInputStream in) throws IOException {
        Object[] pool = new Object[in.readUnsignedShort()];
        for (int i = 1; i < pool.length; i++) {
            int tag = in.readUnsignedByte();
            switch (tag) {
                case 1 -> pool[i] = in.readUTF();
                case 3, 4 -> in.skipNBytes(4);
                case 5, 6 -> {
                    in.skipNBytes(8);
                    i++;
                }
                case 7, 8, 16, 19, 20 -> pool[i] = new int[] {in.readUnsignedShort()};
                case 15 -> in.skipNBytes(3);
                default -> pool[i] = new int[] {in.readUnsignedShort(), in.readUnsignedShort()};
            }
        }
        return pool;
    }

    private int part(int entry, int which) {
        return ((int[]) pool[entry])[which];
    }

    private String className(int entry) {
        return ((String) pool[part(entry, 0)]).replace('/', '.');
    }

    private String calledBy(int entry) {
        return className(part(entry, 0)) + "." + pool[part(part(entry, 1), 0)];
    }

    /** Fields or methods: those that have code go into bodies. */
    private void readMembers(DataInputStream in) throws IOException {
        for (int left = in.readUnsignedShort(); left > 0; left--) {
            in.skipNBytes(2);
            String member = name + "." + pool[in.readUnsignedShort()];
            in.skipNBytes(2);
            for (int more = in.readUnsignedShort(); more > 0; more--) {
                String attribute = (String) pool[in.readUnsignedShort()];
                byte[] bytes = new byte[in.readInt()];
                in.readFully(bytes);
                if (attribute.equals("Code")) {
                    bodies.add(readBody(member, ByteBuffer.wrap(bytes)));
                }
            }
        }
    }

    private Body readBody(String method, ByteBuffer code) {
        int from = 8;
        int end = from + code.getInt(4);
        List<Step> steps = new ArrayList<>();
        for (int at = from; at < end; at += length(code, at, from)) {
            int step = code.get(at) & 255;
            boolean calls = step >= INVOKEVIRTUAL && step <= INVOKEINTERFACE;
            steps.add(new Step(step, calls ? calledBy(code.getShort(at + 1) & 65535) : ""));
        }
        return new Body(method, code.getShort(end), steps);
    }

    private static int length(ByteBuffer code, int at, int from) {
        int step = code.get(at) & 255;
        int table = (at - from + 4) / 4 * 4 + from;
        if (step == TABLESWITCH) {
            return table - at + 12 + 4 * (code.getInt(table + 8) - code.getInt(table + 4) + 1);
        }
        if (step == LOOKUPSWITCH) {
            return table - at + 8 + 8 * code.getInt(table + 4);
        }
        if (step == WIDE) {
            return (code.get(at + 1) & 255) == IINC ? 6 : 4;
        }
        int length = 1;
        for (int[] one : LENGTHS) {
            length = step >= one[0] ? one[1] : length;
        }
        return length;
    }
}
