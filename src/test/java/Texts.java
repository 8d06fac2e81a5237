/** Texts are told to the class eight bytes at a time. */
final class Texts {
    private Texts() { }

    static long eight(String part) {
        long value = 0;
        for (int i = 0; i < 8; i++) {
            value = value << 8 | (i < part.length() ? part.charAt(i) & 255 : 0);
        }
        return value;
    }

    static int spell(TreeFlows x, String text) {
        int told = x.grid(10);
        for (int i = 0; i < text.length(); i += 8) {
            told = x.spell(eight(text.substring(i, Math.min(i + 8, text.length()))));
        }
        return told;
    }
}
