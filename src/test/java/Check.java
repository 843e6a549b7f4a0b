import java.nio.charset.StandardCharsets;

/** Counts answers that are not the ones due, and feeds texts. */
final class Check {
    private static int asked = 0;
    private static int wrong = 0;
    private static int sentences = 0;
    private static String said = "";

    private Check() {
    }

    static void due(String call, long got, long want) {
        asked++;
        if (got != want) {
            wrong++;
            System.out.println(said + call + " answered " + got + ", due is " + want);
        }
    }

    static void due(String call, boolean got, boolean want) {
        due(call, got ? 1 : 0, want ? 1 : 0);
    }

    /** A test of its own for a sentence of the document, which is quoted; one that asks nothing is wrong. */
    static void sentence(String quoted, Runnable test) {
        said = "\"" + quoted + "\": ";
        int before = asked;
        test.run();
        if (asked == before) {
            wrong++;
            System.out.println(said + "nothing was asked");
        }
        said = "";
        sentences++;
    }

    /** All that man, motion and count tell. */
    static int[] all(WorseSenate x) {
        int men = x.count(1);
        int motions = x.count(2);
        int[] row = new int[15 + 10 * men + 5 * motions];
        int n = 0;
        for (int what = 0; what < 15; what++) {
            row[n++] = x.count(what);
        }
        for (int man = 0; man < men; man++) {
            for (int what = 0; what < 10; what++) {
                row[n++] = x.man(man, what);
            }
        }
        for (int motion = 0; motion < motions; motion++) {
            for (int what = 0; what < 5; what++) {
                row[n++] = x.motion(motion, what);
            }
        }
        return row;
    }

    /** Nothing has happened since all of it was asked. */
    static void same(String call, WorseSenate x, int[] before) {
        int[] after = all(x);
        due("how many answers after " + call, after.length, before.length);
        for (int at = 0; at < before.length && at < after.length; at++) {
            due("answer " + at + " after " + call, after[at], before[at]);
        }
    }

    static int wrong() {
        return wrong;
    }

    static void end(String name) {
        String of = sentences > 0 ? " for " + sentences + " sentences" : "";
        System.out.println(name + ": " + asked + " answers" + of + ", " + wrong + " wrong");
        System.exit(wrong == 0 && asked > 0 ? 0 : 1);
    }

    /** Puts a text on the tape, to the byte. */
    static void put(WorseSenate x, String text) {
        put(x, text.getBytes(StandardCharsets.ISO_8859_1));
    }

    static void put(WorseSenate x, byte[] text) {
        for (int from = 0; from < text.length; from += 20) {
            int[] words = new int[5];
            for (int i = 0; i < 20; i++) {
                int b = from + i < text.length ? text[from + i] & 255 : ' ';
                words[i / 4] |= b << 24 - 8 * (i % 4);
            }
            due("feed", x.feed(words[0], words[1], words[2], words[3], words[4]), x.count(8));
        }
        int rest = text.length % 20;
        if (rest != 0) {
            x.back(20 - rest);
        }
        due("bytes on the tape", x.count(8), text.length);
    }

    static WorseSenate of(String text) {
        WorseSenate x = new WorseSenate();
        put(x, text);
        due("read() of " + text, x.read(), 0);
        return x;
    }

    static void fault(String text, int fault, int place) {
        WorseSenate x = new WorseSenate();
        put(x, text);
        due("read() of " + text, x.read(), fault);
        due("place() of " + text, x.place(), place);
        due("tape after " + text, x.count(8), 0);
    }
}
