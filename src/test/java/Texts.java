import java.nio.charset.StandardCharsets;

/** Puts texts into an object's buffer, and reads its report. */
final class Texts {
    private Texts() {
    }

    /** Appends exactly these signs (0 to 255): a whole row of 20 bytes, and what is too much cut off. */
    static void put(WrapRuns runs, String text) {
        byte[] bytes = text.getBytes(StandardCharsets.ISO_8859_1);
        int length = runs.match(16);
        for (int from = 0; from < bytes.length; from += 20) {
            int[] row = row(bytes, from);
            runs.append(row[0], row[1], row[2], row[3], row[4]);
        }
        runs.truncate(length + bytes.length);
    }

    static int[] row(byte[] bytes, int from) {
        int[] row = new int[5];
        for (int i = 0; i < 20; i++) {
            int sign = from + i < bytes.length ? bytes[from + i] & 255 : ' ';
            row[i / 4] = row[i / 4] << 8 | sign;
        }
        return row;
    }

    static int load(WrapRuns runs, String text) {
        runs.truncate(0);
        put(runs, text);
        return runs.load();
    }

    static WrapRuns begun(String text) {
        WrapRuns runs = new WrapRuns();
        int hands = load(runs, text);
        if (hands < 0) {
            throw new IllegalStateException("the test's own text is wrong: " + text + " " + hands);
        }
        return runs;
    }

    static String report(WrapRuns runs) {
        StringBuilder signs = new StringBuilder();
        for (int i = 0; runs.reportByte(i) != WrapRuns.NONE; i++) {
            signs.append((char) runs.reportByte(i));
        }
        return signs.toString();
    }

    static String laying(WrapRuns runs, int player) {
        runs.writeLaying(player);
        return report(runs);
    }
}
