import java.io.DataInputStream;
import java.io.IOException;
import java.nio.ByteBuffer;
import java.util.ArrayList;
import java.util.List;

/** A compiled class, step by step: what each method does, and what it refers to. */
final class ClassFile {
    static final int INT_DIV = 108, LONG_DIV = 109, INT_REST = 112, LONG_REST = 113, THROW = 191;
    static final int INVOKE_DYNAMIC = 186, NEW = 187, NEW_ARRAY = 188, NEW_ARRAY_OF = 189, NEW_ARRAYS = 197;
    static final int MONITOR_ENTER = 194, MONITOR_EXIT = 195;
    private static final int TABLE_SWITCH = 170, LOOKUP_SWITCH = 171, WIDE = 196, INCREASE = 132;

    /** Of one step: its method, its number, and the class, the name of what it refers to ("" if nothing). */
    record Step(String method, int code, String owner, String name, boolean isCall) {
        String target() {
            return owner + "." + name;
        }
    }

    final List<Step> steps = new ArrayList<>();
    int handlers;
    private final DataInputStream in;
    private final String self;
    private int[] tags;
    private int[] first;
    private int[] second;
    private String[] texts;

    ClassFile(Class<?> one) throws IOException {
        self = one.getName();
        in = new DataInputStream(one.getResourceAsStream(one.getName() + ".class"));
        in.skipNBytes(8);
        readConstants();
        in.skipNBytes(6);
        in.skipNBytes(2 * in.readUnsignedShort());
        readMembers();
        readMembers();
        in.close();
    }

    private void readConstants() throws IOException {
        int many = in.readUnsignedShort();
        tags = new int[many];
        first = new int[many];
        second = new int[many];
        texts = new String[many];
        for (int i = 1; i < many; i++) {
            tags[i] = in.readUnsignedByte();
            switch (tags[i]) {
                case 1 -> texts[i] = in.readUTF();
                case 3, 4 -> first[i] = in.readInt();
                case 5, 6 -> {
                    in.skipNBytes(8);
                    i++;
                }
                case 7, 8, 16, 19, 20 -> first[i] = in.readUnsignedShort();
                case 15 -> in.skipNBytes(3);
                default -> {
                    first[i] = in.readUnsignedShort();
                    second[i] = in.readUnsignedShort();
                }
            }
        }
    }

    private void readMembers() throws IOException {
        int many = in.readUnsignedShort();
        for (int i = 0; i < many; i++) {
            in.skipNBytes(2);
            String name = texts[in.readUnsignedShort()];
            in.skipNBytes(2);
            int attributes = in.readUnsignedShort();
            for (int j = 0; j < attributes; j++) {
                String attribute = texts[in.readUnsignedShort()];
                byte[] body = in.readNBytes(in.readInt());
                if (attribute.equals("Code")) {
                    readCode(self + "." + name, ByteBuffer.wrap(body));
                }
            }
        }
    }

    private void readCode(String method, ByteBuffer body) {
        int length = body.getInt(4);
        handlers += body.getShort(8 + length);
        ByteBuffer code = body.slice(8, length);
        for (int at = 0; at < length; at += lengthOf(code, at)) {
            int step = code.get(at) & 255;
            boolean refers = step >= 178 && step <= 187 || step == 189 || step == 192 || step == 193 || step == 197;
            int constant = refers ? code.getShort(at + 1) & 0xffff : 0;
            boolean isMember = tags[constant] >= 9 && tags[constant] <= 11;
            int owner = isMember ? first[constant] : constant;
            steps.add(new Step(method, step, tags[owner] == 7 ? texts[first[owner]] : "",
                isMember ? texts[first[second[constant]]] : "", isMember && step >= 182));
        }
    }

    private static int lengthOf(ByteBuffer code, int at) {
        int step = code.get(at) & 255;
        int aligned = (at + 4) / 4 * 4;
        if (step == TABLE_SWITCH) {
            return aligned + 12 + 4 * (code.getInt(aligned + 8) - code.getInt(aligned + 4) + 1) - at;
        }
        if (step == LOOKUP_SWITCH) {
            return aligned + 8 + 8 * code.getInt(aligned + 4) - at;
        }
        if (step == WIDE) {
            return (code.get(at + 1) & 255) == INCREASE ? 6 : 4;
        }
        return plainLengthOf(step);
    }

    private static int plainLengthOf(int step) {
        if (step == 185 || step == INVOKE_DYNAMIC || step >= 200) {
            return 5;
        }
        if (step == NEW_ARRAYS) {
            return 4;
        }
        if (step == 17 || step == 19 || step == 20 || step == INCREASE || step >= 153 && step <= 168
            || step >= 178 && step <= 184 || step == NEW || step == NEW_ARRAY_OF || step == 192 || step == 193
            || step == 198 || step == 199) {
            return 3;
        }
        boolean two = step == 16 || step == 18 || step >= 21 && step <= 25 || step >= 54 && step <= 58
            || step == 169 || step == NEW_ARRAY;
        return two ? 2 : 1;
    }
}
