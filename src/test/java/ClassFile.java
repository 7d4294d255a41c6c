import java.io.DataInputStream;
import java.io.IOException;
import java.io.InputStream;
import java.util.ArrayList;
import java.util.List;

/** A compiled class, read as far as LanguageTest asks: its methods, and the steps of each. */
final class ClassFile {
    /** One step of a method: its code's number, and what it names ("Owner.member", a class, or nothing). */
    static final class Step {
        final int code;
        final String names;

        Step(int code, String names) {
            this.code = code;
            this.names = names;
        }
    }

    static final class Body {
        final String name;
        final List<Step> steps = new ArrayList<>();
        int catches;

        Body(String name) { this.name = name; }
    }

    final List<Body> bodies = new ArrayList<>();
    final String name;
    private final Object[] pool;

    ClassFile(Class<?> of) throws IOException {
        name = of.getName();
        try (InputStream file = of.getResourceAsStream("/" + name + ".class"); DataInputStream in = new DataInputStream(file)) {
            in.skipBytes(8);
            pool = readPool(in);
            in.skipBytes(6);
            in.skipBytes(2 * in.readUnsignedShort());
            for (int k = in.readUnsignedShort(); k > 0; k--) readMember(in);
            for (int k = in.readUnsignedShort(); k > 0; k--) bodies.add(readMember(in));
        }
    }

    private static Object[] readPool(DataInputStream in) throws IOException {
        Object[] pool = new Object[in.readUnsignedShort()];
        for (int k = 1; k < pool.length; k++) {
            int tag = in.readUnsignedByte();
            switch (tag) {
                case 1: pool[k] = in.readUTF(); break;
                case 3: case 4: in.skipBytes(4); break;
                case 5: case 6: in.skipBytes(8); k++; break;
                case 7: case 8: case 16: case 19: case 20: pool[k] = new int[] {in.readUnsignedShort()}; break;
                case 15: in.skipBytes(3); break;
                default: pool[k] = new int[] {in.readUnsignedShort(), in.readUnsignedShort()}; break;
            }
        }
        return pool;
    }

    private String text(int k) {
        if (pool[k] instanceof String) return (String) pool[k];
        int[] parts = (int[]) pool[k];
        return parts.length == 1 ? text(parts[0]) : text(parts[0]) + "." + text(((int[]) pool[parts[1]])[0]);
    }

    private Body readMember(DataInputStream in) throws IOException {
        in.skipBytes(2);
        Body body = new Body(name + "." + text(in.readUnsignedShort()));
        in.skipBytes(2);
        for (int k = in.readUnsignedShort(); k > 0; k--) {
            String what = text(in.readUnsignedShort());
            byte[] bytes = new byte[in.readInt()];
            in.readFully(bytes);
            if (what.equals("Code")) readCode(body, bytes);
        }
        return body;
    }

    private void readCode(Body body, byte[] b) {
        int end = 8 + number(b, 4, 4);
        for (int at = 8; at < end; at += length(b, at)) {
            int code = b[at] & 255;
            boolean names = code >= 0xb2 && code <= 0xb9 || code == 0xbb || code == 0xbd || code == 0xc0 || code == 0xc1 || code == 0xc5;
            body.steps.add(new Step(code, names ? text(number(b, at + 1, 2)) : ""));
        }
        body.catches = number(b, end, 2);
    }

    private static int number(byte[] b, int at, int size) {
        int n = 0;
        for (int k = 0; k < size; k++) n = n << 8 | b[at + k] & 255;
        return n;
    }

    private static int length(byte[] b, int at) {
        int code = b[at] & 255;
        if (code == 0xaa || code == 0xab) {
            // a switch: its table begins at a place that four divides, counted from the method's first step
            int table = at + 1 + (3 - (at - 8) % 4);
            int rows = code == 0xaa ? 3 + number(b, table + 8, 4) - number(b, table + 4, 4) + 1 : 2 + 2 * number(b, table + 4, 4);
            return table - at + 4 * rows;
        }
        if (code == 0xc4) return (b[at + 1] & 255) == 0x84 ? 6 : 4;
        if (code == 0xb9 || code == 0xba || code == 0xc8 || code == 0xc9) return 5;
        if (code == 0xc5) return 4;
        boolean three = code == 0x11 || code == 0x13 || code == 0x14 || code == 0x84 || code >= 0x99 && code <= 0xa8
            || code >= 0xb2 && code <= 0xbb || code == 0xbd || code == 0xc0 || code == 0xc1 || code >= 0xc6;
        if (three) return 3;
        boolean two = code == 0x10 || code == 0x12 || code >= 0x15 && code <= 0x19 || code >= 0x36 && code <= 0x3a
            || code == 0xa9 || code == 0xbc;
        return two ? 2 : 1;
    }
}
