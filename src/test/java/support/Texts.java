package support;

import java.nio.charset.StandardCharsets;

/** Texts as the numbers that feed takes: five at a time, the rest zeros. */
public final class Texts {
    private Texts() { }

    public static int[][] feeds(String text) {
        byte[] bytes = text.getBytes(StandardCharsets.ISO_8859_1);
        int[][] feeds = new int[(bytes.length + 19) / 20][5];
        for (int i = 0; i < bytes.length; i++) {
            feeds[i / 20][i % 20 / 4] |= (bytes[i] & 255) << 24 - 8 * (i % 4);
        }
        return feeds;
    }
}
