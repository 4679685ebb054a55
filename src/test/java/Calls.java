import java.nio.charset.StandardCharsets;

/** Calls and numbers that all tests need. */
abstract class Calls {
    static final int BAD = -1, FULL = -2, NONE = -3, STATE = -4;
    static final int NO_ROW = -9, NOTHING = -11, OUTSIDE = -12, OTHER = -13, BELOW_0 = -14, BY_0 = -15;
    static final int MIN = Integer.MIN_VALUE, MAX = Integer.MAX_VALUE;

    /** Numbers that are not from least to most, near and far. */
    static int[] outside(int least, int most) {
        return new int[] {least - 1, most + 1, MIN, MAX};
    }

    /** Feeds a text. */
    static void feed(ShadowSchool x, String text) {
        byte[] b = text.getBytes(StandardCharsets.ISO_8859_1);
        for (int at = 0; at < b.length; at += 8) {
            long eight = 0;
            int n = Math.min(8, b.length - at);
            for (int k = n - 1; k >= 0; k--) {
                eight = eight << 8 | b[at + k] & 255;
            }
            x.feed(eight, n);
        }
    }

    /** Feeds a text and reads it. */
    static int read(ShadowSchool x, String text) {
        feed(x, text);
        return x.rules();
    }

    /** A sheet of bytes. */
    static void bytes(ShadowSchool x, int sheet, int... items) {
        x.sheet(sheet, 0, items.length);
        for (int i = 0; i < items.length; i++) {
            x.write(sheet, i, items[i]);
        }
    }

    static void pass(ShadowSchool x, int hours) {
        for (int k = 0; k < hours; k++) {
            x.hour();
        }
    }

    static ShadowSchool fresh() {
        return new ShadowSchool();
    }

    /** SHADOWS of one KIND, QUICK and TALL. */
    static ShadowSchool alike(int count, int kind, int quick, int tall) {
        ShadowSchool x = new ShadowSchool();
        for (int p = 0; p < count; p++) {
            x.shadow(kind, quick, tall);
        }
        return x;
    }

    /** One of each KIND 1 to 5: SHADOWS 0 to 4. */
    static ShadowSchool ofEach(int quick, int tall) {
        ShadowSchool x = new ShadowSchool();
        for (int kind = 1; kind <= 5; kind++) {
            x.shadow(kind, quick, tall);
        }
        return x;
    }
}
