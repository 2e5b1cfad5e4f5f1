import java.io.DataInputStream;
import java.io.IOException;
import java.io.InputStream;
import java.util.ArrayList;
import java.util.List;

/** The constant pool of a compiled class: every method and field that the class uses is named there. */
final class ConstantPool {
    private static final int TEXT = 1;
    private static final int FIELD = 9;
    private static final int INTERFACE_METHOD = 11;
    private static final int METHOD_HANDLE = 15;
    private static final int INVOKE_DYNAMIC = 18;

    private final int[] tags;
    private final String[] texts;
    private final int[] first;
    private final int[] second;

    private ConstantPool(int size) {
        tags = new int[size];
        texts = new String[size];
        first = new int[size];
        second = new int[size];
    }

    static ConstantPool of(Class<?> type) throws IOException {
        try (InputStream file = type.getResourceAsStream(type.getName() + ".class");
            DataInputStream in = new DataInputStream(file)) {
            // The magic number and the version.
            in.skipNBytes(8);
            ConstantPool pool = new ConstantPool(in.readUnsignedShort());
            for (int i = 1; i < pool.tags.length; i += pool.readEntry(i, in)) {
            }
            return pool;
        }
    }

    /** Answers how many places the entry takes. */
    private int readEntry(int i, DataInputStream in) throws IOException {
        tags[i] = in.readUnsignedByte();
        switch (tags[i]) {
            case TEXT -> texts[i] = in.readUTF();
            case 3, 4 -> in.skipNBytes(4);
            case 5, 6 -> in.skipNBytes(8);
            case 7, 8, 16, 19, 20 -> first[i] = in.readUnsignedShort();
            case METHOD_HANDLE -> in.skipNBytes(3);
            case 9, 10, 11, 12, 17, 18 -> {
                first[i] = in.readUnsignedShort();
                second[i] = in.readUnsignedShort();
            }
            default -> throw new IOException("unknown tag " + tags[i]);
        }
        boolean isLongOrDouble = tags[i] == 5 || tags[i] == 6;
        return isLongOrDouble ? 2 : 1;
    }

    /** Lambdas, method references and texts joined by + are linked at run time, by such an entry. */
    boolean hasDynamicCalls() {
        for (int tag : tags) {
            if (tag >= METHOD_HANDLE && tag <= INVOKE_DYNAMIC) {
                return true;
            }
        }
        return false;
    }

    /** Returns the methods and fields that are used, as "java/lang/String.length". */
    List<String> uses() {
        List<String> found = new ArrayList<>();
        for (int i = 1; i < tags.length; i++) {
            if (tags[i] >= FIELD && tags[i] <= INTERFACE_METHOD) {
                found.add(texts[first[first[i]]] + "." + texts[first[second[i]]]);
            }
        }
        return found;
    }
}
