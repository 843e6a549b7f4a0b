import java.nio.charset.StandardCharsets;

/** Counts answers that are not the ones due, and feeds texts. */
final class Check {
    private static int asked = 0;
    private static int wrong = 0;

    private Check() {
    }

    static void due(String call, long got, long want) {
        asked++;
        if (got != want) {
            wrong++;
            System.out.println(call + " answered " + got + ", due is " + want);
        }
    }

    static void due(String call, boolean got, boolean want) {
        due(call, got ? 1 : 0, want ? 1 : 0);
    }

    static int wrong() {
        return wrong;
    }

    static void end(String name) {
        System.out.println(name + ": " + asked + " answers, " + wrong + " wrong");
        System.exit(wrong == 0 && asked > 0 ? 0 : 1);
    }

    /** Puts a text on the tape, to the byte. */
    static void put(WorseSenate x, String text) {
        put(x, text.getBytes(StandardCharsets.ISO_8859_1));
    }

    static void put(WorseSenate x, byte[] text) {
        for (int from = 0; from < text.length; from += 20) {
            int[] words = new int[5];
            for (int i = 0; i < 20; i++) {
                int b = from + i < text.length ? text[from + i] & 255 : ' ';
                words[i / 4] |= b << 24 - 8 * (i % 4);
            }
            due("feed", x.feed(words[0], words[1], words[2], words[3], words[4]), x.count(8));
        }
        int rest = text.length % 20;
        if (rest != 0) {
            x.back(20 - rest);
        }
        due("bytes on the tape", x.count(8), text.length);
    }

    static WorseSenate of(String text) {
        WorseSenate x = new WorseSenate();
        put(x, text);
        due("read() of " + text, x.read(), 0);
        return x;
    }

    static void fault(String text, int fault, int place) {
        WorseSenate x = new WorseSenate();
        put(x, text);
        due("read() of " + text, x.read(), fault);
        due("place() of " + text, x.place(), place);
        due("tape after " + text, x.count(8), 0);
    }
}
