import java.util.Arrays;

/** Rows of bytes made of numbers of bits, as the document numbers them. */
final class Bits {
    private Bits() {
    }

    /** Numbers, each told as "number:bits", from bit 0 on; zeros up to the end of a byte follow. */
    static int[] of(String numbers) {
        String[] parts = numbers.trim().split("\\s+");
        int[] bytes = new int[2 * parts.length];
        int at = 0;
        for (String part : parts) {
            int number = Integer.parseInt(part.split(":")[0]);
            int many = Integer.parseInt(part.split(":")[1]);
            for (int i = 0; i < many; i++) {
                bytes[at / 8] |= (number >> i & 1) << at % 8;
                at++;
            }
        }
        return Arrays.copyOf(bytes, (at + 7) / 8);
    }

    /** A description by states: how many bytes follow, a share, and a row. */
    static int[] described(int[] share, int[] row) {
        return joined(new int[] {share.length + row.length}, share, row);
    }

    static int[] described(String share, String row) {
        return described(of(share), of(row));
    }

    static int[] joined(int[]... rows) {
        int[] all = new int[0];
        for (int[] row : rows) {
            int before = all.length;
            all = Arrays.copyOf(all, before + row.length);
            System.arraycopy(row, 0, all, before, row.length);
        }
        return all;
    }

    /** As many of one number as are wanted. */
    static int[] many(int number, int times) {
        int[] all = new int[times];
        Arrays.fill(all, number);
        return all;
    }
}
