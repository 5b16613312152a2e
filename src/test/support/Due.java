/** Compares answers with what is due, counts what is wrong, and feeds texts. */
final class Due {
    private int wrong = 0;
    private int asked = 0;
    private String where = "";

    void at(String place) {
        where = place;
    }

    void is(String call, long got, long want) {
        asked++;
        if (got != want) {
            wrong++;
            if (wrong <= 40) {
                System.out.println(where + ": " + call + " answered " + got + ", due is " + want);
            }
        }
    }

    void is(String call, boolean got, boolean want) {
        is(call, got ? 1 : 0, want ? 1 : 0);
    }

    int wrongOnes() {
        return wrong;
    }

    /** Ends the test: with exit code 1 if an answer was wrong, or if nothing was asked. */
    void finish() {
        if (wrong > 0 || asked == 0) {
            System.out.println(wrong + " of " + asked + " answers are not as due");
            System.exit(1);
        }
        System.out.println("all " + asked + " answers are as due");
    }

    static int[] bytesOf(String text) {
        int[] bytes = new int[text.length()];
        for (int k = 0; k < bytes.length; k++) {
            bytes[k] = text.charAt(k) & 255;
        }
        return bytes;
    }

    /** Puts the bytes on an empty tape. */
    static void feed(ProtocolAtlas atlas, int... bytes) {
        for (int k = 0; k < bytes.length; k += 20) {
            int[] five = new int[5];
            for (int i = 0; i < 20; i++) {
                int b = k + i < bytes.length ? bytes[k + i] : 32;
                five[i / 4] = five[i / 4] << 8 | b;
            }
            atlas.feed(five[0], five[1], five[2], five[3], five[4]);
        }
        if (bytes.length > 0) {
            atlas.end(bytes.length);
        }
    }

    static void feed(ProtocolAtlas atlas, String text) {
        feed(atlas, bytesOf(text));
    }

    static ProtocolAtlas of(String text) {
        ProtocolAtlas atlas = new ProtocolAtlas();
        feed(atlas, text);
        atlas.table();
        return atlas;
    }

    /** What spell() or image() wrote last. */
    static int[] written(ProtocolAtlas atlas, int length) {
        int[] bytes = new int[Math.max(0, length)];
        for (int k = 0; k < bytes.length; k++) {
            bytes[k] = atlas.octet(k);
        }
        return bytes;
    }

    static String textOf(int[] bytes) {
        StringBuilder text = new StringBuilder();
        for (int b : bytes) {
            text.append((char) b);
        }
        return text.toString();
    }
}
