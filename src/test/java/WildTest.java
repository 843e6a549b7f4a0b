import java.nio.charset.StandardCharsets;

/**
 * What the document says of the class as a whole, ahead of its terms and behind its promises: no call throws or
 * fails to end, whatever it is given; objects know nothing of one another; 512 calls of one object are as promised.
 */
public final class WildTest {
    private static final int LEAST = Integer.MIN_VALUE;
    private static final int MOST = Integer.MAX_VALUE;
    private static final int[] WILD = {LEAST, LEAST + 1, -65536, -10000, -2, -1, 0, 1, 2, 3, 4, 5, 6, 7, 8, 9, 10, 19, 20,
        21, 31, 32, 99, 100, 2000, 65536, 1 << 30, MOST - 1, MOST};
    private static final int[] FEW = {LEAST, -2, -1, 0, 1, 2, 3, 5, 7, 8, 32, MOST};
    private static final int CALLS = 512;

    private static final String FULL = full(3, 7, 5, 8);
    private static final String[] TEXTS = {"", "sides 3;seed 9999;", full(2, 7, 5, 0), full(3, 7, 0, 8), full(3, 0, 5, 8),
        full(2, 3, 2, 2), FULL};

    /** The calls that take ints alone, or ints and one boolean, in the face's order. */
    private static final String[] CALLED = {"back", "man", "motion", "argues", "mark", "sum", "speak", "praise", "reads",
        "swear", "session", "now", "likely", "change", "choose", "chosen", "mumble", "jury", "say", "fine", "ahead",
        "harsh", "praiseFor", "old", "year", "tell", "slipped", "thinks", "hold", "restore", "count"};
    private static final int[] INTS = {1, 2, 2, 2, 2, 1, 3, 1, 2, 2, 1, 2, 2, 3, 3, 2, 2, 3, 2, 1, 1, 1, 3, 2, 2, 2, 2, 2, 1,
        1, 1};

    private WorseSenate x;
    private Model m;
    private int made = CALLS;
    private final String text;
    private final boolean spoken;

    private WildTest(String text, boolean spoken) {
        this.text = text;
        this.spoken = spoken;
    }

    public static void main(String[] args) {
        for (String text : TEXTS) {
            Check.sentence("any arguments in any state: " + text, () -> new WildTest(text, false).callAll());
            Check.sentence("any arguments when men speak: " + text, () -> new WildTest(text, true).callAll());
        }
        Check.sentence("any bytes are read", WildTest::anyBytes);
        Check.sentence("An object is used for at most 512 calls after it has been made", WildTest::allCallsOfOne);
        Check.sentence("an object knows nothing of another one", WildTest::apart);
        Check.sentence("the same calls always give the same answers", WildTest::sameAgain);
        Check.end("WildTest");
    }

    private static String full(int sides, int men, int motions, int jurors) {
        StringBuilder s = new StringBuilder("sides " + sides + ";seed 123;");
        for (int i = 0; i < men; i++) {
            s.append("man a").append((char) ('a' + i)).append(" ").append(i % sides).append(" ").append(1 + i).append(" ");
            s.append(i == 0 ? 10 : i == 1 ? 0 : 3 + i % 4).append(" ").append(20 * i).append(";");
        }
        for (int i = 0; i < motions; i++) {
            s.append("motion b").append((char) ('a' + i)).append(" 10 ").append(i).append(" 5;");
        }
        for (int i = 0; i < jurors; i++) {
            s.append("juror c").append((char) ('a' + i)).append(" ").append(i % sides).append(";");
        }
        return s.append("argues=skill+slip*2+praise-manner;marks=good+lean-which/3;fines=good/2;").toString();
    }

    /** A new pair, as far as the calls of this test begin. */
    private void begin() {
        x = new WorseSenate();
        m = new Model();
        Check.put(x, text);
        m.tape = text.getBytes(StandardCharsets.ISO_8859_1);
        Check.due("read", x.read(), m.read());
        made = (text.length() + 19) / 20 * 2 + 3;
        if (spoken) {
            speakOn(0);
            call("session", 0, 0, 0, true);
            speakOn(1);
            call("reads", 2, 3, 0, true);
            call("swear", 4, 2, 0, true);
            call("tell", 1, 20, 0, true);
            call("tell", 2, 16, 0, true);
            call("hold", 1, 0, 0, true);
        }
    }

    private void speakOn(int motion) {
        for (int man = 0; man < 7; man++) {
            call("speak", man, motion, man % 4, true);
        }
    }

    private void callAll() {
        for (int c = 0; c < CALLED.length; c++) {
            int[] first = INTS[c] == 3 ? FEW : WILD;
            int[] second = INTS[c] == 3 ? FEW : INTS[c] == 2 ? WILD : new int[] {0};
            int[] third = INTS[c] == 3 ? FEW : new int[] {0};
            begin();
            for (int a : first) {
                for (int b : second) {
                    for (int d : third) {
                        if (made + 2 > CALLS) {
                            begin();
                        }
                        call(CALLED[c], a, b, d, true);
                        call(CALLED[c], a, b, d, false);
                    }
                }
            }
        }
    }

    private void call(String name, int a, int b, int d, boolean yes) {
        made++;
        String told = name + "(" + a + ", " + b + ", " + d + ", " + yes + ")";
        try {
            Check.due(told, ask(x, name, a, b, d, yes), askModel(name, a, b, d, yes));
        } catch (RuntimeException thrown) {
            Check.due(told + " threw " + thrown, true, false);
        }
    }

    private static int one(boolean b) {
        return b ? 1 : 0;
    }

    private static int ask(WorseSenate x, String name, int a, int b, int d, boolean yes) {
        switch (name) {
            case "back": return x.back(a);
            case "man": return x.man(a, b);
            case "motion": return x.motion(a, b);
            case "argues": return x.argues(a, b, yes);
            case "mark": return x.mark(a, b, yes);
            case "sum": return x.sum(a, yes);
            case "speak": return one(x.speak(a, b, d));
            case "praise": return x.praise(a);
            case "reads": return x.reads(a, b);
            case "swear": return one(x.swear(a, b));
            case "session": return x.session(a);
            case "now": return x.now(a, b);
            case "likely": return x.likely(a, b, yes);
            case "change": return x.change(a, b, d);
            case "choose": return x.choose(a, b, d);
            case "chosen": return x.chosen(a, b, yes);
            case "mumble": return x.mumble(a, b);
            case "jury": return x.jury(a, b, d);
            case "say": return x.say(a, b);
            case "fine": return x.fine(a, yes);
            case "ahead": return x.ahead(a);
            case "harsh": return x.harsh(a, yes);
            case "praiseFor": return x.praiseFor(a, b, d);
            case "old": return x.old(a, b);
            case "year": return x.year(a, b);
            case "tell": return x.tell(a, b);
            case "slipped": return x.slipped(a, b);
            case "thinks": return x.thinks(a, b);
            case "hold": return one(x.hold(a));
            case "restore": return one(x.restore(a));
            default: return x.count(a);
        }
    }

    private int askModel(String name, int a, int b, int d, boolean yes) {
        switch (name) {
            case "back": return m.back(a);
            case "man": return m.man(a, b);
            case "motion": return m.motion(a, b);
            case "argues": return m.argues(a, b, yes);
            case "mark": return m.mark(a, b, yes);
            case "sum": return m.sum(a, yes);
            case "speak": return one(m.speak(a, b, d));
            case "praise": return m.praise(a);
            case "reads": return m.reads(a, b);
            case "swear": return one(m.swear(a, b));
            case "session": return m.session(a);
            case "now": return m.now(a, b);
            case "likely": return m.likely(a, b, yes);
            case "change": return m.change(a, b, d);
            case "choose": return m.choose(a, b, d);
            case "chosen": return m.chosen(a, b, yes);
            case "mumble": return m.mumble(a, b);
            case "jury": return m.jury(a, b, d);
            case "say": return m.say(a, b);
            case "fine": return m.fine(a, yes);
            case "ahead": return m.ahead(a);
            case "harsh": return m.harsh(a, yes);
            case "praiseFor": return m.praiseFor(a, b, d);
            case "old": return m.old(a, b);
            case "year": return m.year(a, b);
            case "tell": return m.tell(a, b);
            case "slipped": return m.slipped(a, b);
            case "thinks": return m.thinks(a, b);
            case "hold": return one(m.hold(a));
            case "restore": return one(m.restore(a));
            default: return m.count(a);
        }
    }

    /** Each byte by itself, at the start, within a TELL and within a law, and whole tapes of one byte. */
    private static void anyBytes() {
        for (int b = 0; b < 256; b++) {
            byte[] whole = new byte[2000];
            java.util.Arrays.fill(whole, (byte) b);
            compareText(whole);
            for (String around : new String[] {"?seed 1;", "man ? 0 1 0 0;", "man a? 0 1 0 0;", "seed ?;", "seed 1?",
                "fines=?1;", "fines=1?2;", "fines=(1)?;", "seed 1;?"}) {
                byte[] bytes = around.getBytes(StandardCharsets.ISO_8859_1);
                bytes[around.indexOf('?')] = (byte) b;
                compareText(bytes);
            }
        }
    }

    private static void compareText(byte[] text) {
        WorseSenate x = new WorseSenate();
        Model m = new Model();
        Check.put(x, text);
        m.tape = text;
        String told = new String(text, 0, Math.min(20, text.length), StandardCharsets.ISO_8859_1);
        Check.due("read() of " + told, x.read(), m.read());
        Check.due("place() of " + told, x.place(), m.place);
    }

    /** Deeds, questions and undoing up to the very last call that is promised. */
    private static void allCallsOfOne() {
        WildTest t = new WildTest(FULL, true);
        t.begin();
        for (int i = 0; t.made + 3 <= CALLS; i++) {
            t.call(i % 3 == 0 ? "praise" : "speak", i % 7, 1 + i % 4, i / 7 % 4, true);
            t.call("count", 9, 0, 0, true);
            if (i % 90 == 89) {
                t.made++;
                Check.due("undo", t.x.undo(), t.m.undo());
            } else {
                t.call(CALLED[11 + i % 17], i % 5, i % 3, i % 2, true);
            }
        }
        while (t.made < CALLS) {
            t.call("count", 9, 0, 0, true);
        }
        Check.due("calls of one object", t.made, CALLS);
    }

    /** Two objects in step, each as if there were no other one. */
    private static void apart() {
        WildTest one = new WildTest(FULL, true);
        WildTest other = new WildTest(full(2, 3, 2, 2), false);
        one.begin();
        other.begin();
        for (int c = 0; c < CALLED.length; c++) {
            for (int a = 0; a < 3; a++) {
                one.call(CALLED[c], a, 1, 0, true);
                other.call(CALLED[c], 2 - a, 0, 1, false);
            }
        }
        Check.due("undo of one", one.x.undo(), one.m.undo());
        Check.due("undo of the other", other.x.undo(), other.m.undo());
        Check.put(one.x, "man z 0 1 0 7;");
        Check.due("tape of the other", other.x.count(8), 0);
        Check.due("read of one", one.x.read(), 0);
        Check.due("MEN of the other", other.x.count(1), 3);
        Check.due("a new one knows of neither", new WorseSenate().count(1), 0);
    }

    private static void sameAgain() {
        long first = answers();
        Check.due("answers once more", answers(), first);
    }

    private static long answers() {
        WorseSenate x = Check.of(FULL);
        long all = 0;
        for (int i = 0; i < 300; i++) {
            all = all * 31 + ask(x, CALLED[i * 7 % CALLED.length], i % 5, i % 3, i % 4, i % 2 == 0);
        }
        return all;
    }
}
