import java.nio.charset.StandardCharsets;
import java.util.ArrayList;
import java.util.List;
import java.util.Random;

/** Random runs of calls, by fixed seeds, on the program and on the model: each answer is the same. */
public final class ModelTest {
    private static final int RUNS = 2500;
    /** Nothing is promised of later calls. */
    private static final int MOST_CALLS = 512;
    /** Calls of the longest deed or question, and of all that is asked at the end. */
    private static final int LONGEST = 60;
    private static final int LAST = 95;
    private static final int TEXTS = 6000;
    private static final String[] VARS = {"skill", "manner", "slip", "praise", "day", "good", "lean", "which",
        "sworn"};

    private final Random random;
    private final WorseSenate x = new WorseSenate();
    private final Model m = new Model();
    private final List<String> calls = new ArrayList<>();
    private int made = 0;

    private ModelTest(long seed) {
        // Seeds in a row give first numbers that are much alike.
        random = new Random(seed * 0x9E3779B97F4A7C15L);
        for (int i = 0; i < 10; i++) {
            random.nextInt();
        }
    }

    public static void main(String[] args) {
        int[] faults = new int[6];
        for (int seed = 0; seed < TEXTS && Check.wrong() < 5; seed++) {
            ModelTest t = new ModelTest(seed);
            faults[t.readText(t.anyText())]++;
        }
        System.out.println("texts by faults: " + java.util.Arrays.toString(faults));
        for (int fault : new int[] {0, 1, 2, 3, 5}) {
            Check.due("fault " + fault + " is met", faults[fault] > 100, true);
        }
        for (int seed = 0; seed < RUNS && Check.wrong() == 0; seed++) {
            new ModelTest(1000000 + seed).run();
        }
        Check.end("ModelTest");
    }

    private void run() {
        int quiet = random.nextInt(4);
        readText(goodText(quiet));
        while (hasRoom(LONGEST) && Check.wrong() == 0) {
            if (random.nextInt(60) == 0) {
                String text = random.nextInt(3) == 0 ? goodText(quiet) : anyText();
                if (hasRoom(callsToRead(text) + LONGEST)) {
                    readText(text);
                }
            }
            doSomething();
            for (int i = 0; i < 2 && hasRoom(LONGEST); i++) {
                askSomething();
            }
        }
        askState();
        Check.due("calls of a run are few: " + made, made <= MOST_CALLS, true);
        if (Check.wrong() != 0) {
            System.out.println("the run:");
            for (String call : calls) {
                System.out.println("  " + call);
            }
        }
    }

    private boolean hasRoom(int more) {
        return made + more + LAST <= MOST_CALLS;
    }

    /** As Check.put does it: two for each twenty bytes, two at the end; then read and place. */
    private static int callsToRead(String text) {
        return (text.length() + 19) / 20 * 2 + 4;
    }

    private void due(String call, long got, long want) {
        made++;
        calls.add(call + " = " + want);
        Check.due(call, got, want);
    }

    private void due(String call, boolean got, boolean want) {
        due(call, got ? 1 : 0, want ? 1 : 0);
    }

    /** An int that mostly is one of 0 .. n - 1. */
    private int near(int n) {
        int odd = random.nextInt(60);
        if (odd == 0) {
            return -1;
        }
        if (odd == 1) {
            return n;
        }
        if (odd == 2) {
            return random.nextInt();
        }
        return n == 0 ? 0 : random.nextInt(n);
    }

    private int anyMan() {
        return near(m.text.men.size());
    }

    private int anyMotion() {
        return near(m.text.motions.size());
    }

    private int anySide() {
        return near(m.text.sides);
    }

    private boolean coin() {
        return random.nextBoolean();
    }

    private int readText(String text) {
        byte[] bytes = text.getBytes(StandardCharsets.ISO_8859_1);
        Check.put(x, bytes);
        made += callsToRead(text) - 2;
        calls.add("text " + text);
        m.tape = bytes;
        int fault = m.read();
        due("read() of " + text, x.read(), fault);
        due("place() of " + text, x.place(), m.place);
        return fault;
    }

    private void doSomething() {
        int man = anyMan();
        switch (random.nextInt(24)) {
            case 0: case 1: case 2: case 3: case 4: case 5: case 6: case 7: case 8: {
                int motion = random.nextInt(12) == 0 ? -1 : anyMotion();
                int manner = near(4);
                due("speak(" + man + ", " + motion + ", " + manner + ")", x.speak(man, motion, manner),
                    m.speak(man, motion, manner));
                break;
            }
            case 9: case 10: case 11:
                due("praise(" + man + ")", x.praise(man), m.praise(man));
                break;
            case 12: case 13: case 14: {
                int other = anyMan();
                due("reads(" + man + ", " + other + ")", x.reads(man, other), m.reads(man, other));
                break;
            }
            case 15: {
                int side = anySide();
                due("swear(" + man + ", " + side + ")", x.swear(man, side), m.swear(man, side));
                break;
            }
            case 16: {
                int motion = anyMotion();
                due("session(" + motion + ")", x.session(motion), m.session(motion));
                break;
            }
            case 17: case 18:
                for (int i = random.nextInt(random.nextInt(8) == 0 ? 60 : 4); i >= 0; i--) {
                    due("undo()", x.undo(), m.undo());
                }
                break;
            case 19: {
                int slot = near(3);
                due("hold(" + slot + ")", x.hold(slot), m.hold(slot));
                break;
            }
            case 20: {
                int slot = near(3);
                due("restore(" + slot + ")", x.restore(slot), m.restore(slot));
                break;
            }
            case 21: case 22: {
                int sum = coin() ? m.sum(man, coin()) : near(100);
                due("tell(" + man + ", " + sum + ")", x.tell(man, sum), m.tell(man, sum));
                break;
            }
            default:
                if (random.nextInt(6) == 0) {
                    due("forget()", x.forget(), m.forget());
                } else {
                    tape();
                }
        }
    }

    private void tape() {
        if (random.nextInt(3) == 0) {
            int n = random.nextInt(3) == 0 ? random.nextInt() : random.nextInt(30) - 3;
            due("back(" + n + ")", x.back(n), m.back(n));
        } else {
            int a = random.nextInt();
            int b = random.nextInt();
            due("feed(" + a + ", " + b + ", ..)", x.feed(a, b, a ^ b, a + b, a * b),
                m.feed(a, b, a ^ b, a + b, a * b));
        }
        due("back(all)", x.back(m.tape.length), m.back(m.tape.length));
    }

    private void askSomething() {
        int man = anyMan();
        int motion = anyMotion();
        int side = anySide();
        boolean yes = coin();
        int i = near(8) - random.nextInt(2);
        String of = "(" + motion + ", " + side + ", ";
        switch (random.nextInt(22)) {
            case 0: due("argues(" + man + ", " + i + ", " + yes + ")", x.argues(man, i, yes), m.argues(man, i, yes));
                break;
            case 1: due("mark(" + i + ", " + man + ", " + yes + ")", x.mark(i, man, yes), m.mark(i, man, yes));
                break;
            case 2: due("sum(" + man + ", " + yes + ")", x.sum(man, yes), m.sum(man, yes));
                break;
            case 3: due("now(" + motion + ", -1)", x.now(motion, -1), m.now(motion, -1));
                break;
            case 4: due("now(" + motion + ", " + side + ")", x.now(motion, side), m.now(motion, side));
                break;
            case 5: due("likely" + of + yes + ")", x.likely(motion, side, yes), m.likely(motion, side, yes));
                break;
            case 6: {
                int what = near(2);
                due("change" + of + what + ")", x.change(motion, side, what), m.change(motion, side, what));
                break;
            }
            case 7: {
                int which = near(3);
                due("choose" + of + which + ")", x.choose(motion, side, which), m.choose(motion, side, which));
                break;
            }
            case 8: due("chosen" + of + yes + ")", x.chosen(motion, side, yes), m.chosen(motion, side, yes));
                break;
            case 9: due("mumble(" + motion + ", -1)", x.mumble(motion, -1), m.mumble(motion, -1));
                break;
            case 10: due("mumble(" + motion + ", " + i + ")", x.mumble(motion, i), m.mumble(motion, i));
                break;
            case 11: {
                int what = near(2);
                int n = 1 + near(m.text.jurors.size());
                due("jury(" + motion + ", " + n + ", " + what + ")", x.jury(motion, n, what), m.jury(motion, n, what));
                break;
            }
            case 12: {
                int sum = near(100);
                due("say(" + man + ", " + sum + ")", x.say(man, sum), m.say(man, sum));
                break;
            }
            case 13: due("fine(" + man + ", " + yes + ")", x.fine(man, yes), m.fine(man, yes));
                break;
            case 14: due("ahead(" + motion + ")", x.ahead(motion), m.ahead(motion));
                break;
            case 15: due("harsh(" + motion + ", " + yes + ")", x.harsh(motion, yes), m.harsh(motion, yes));
                break;
            case 16: due("praiseFor" + of + man + ")", x.praiseFor(motion, side, man), m.praiseFor(motion, side, man));
                break;
            case 17: {
                int other = anyMan();
                due("old(" + man + ", " + other + ")", x.old(man, other), m.old(man, other));
                break;
            }
            case 18: {
                int seeds = 1 + near(20);
                due("year(" + side + ", " + seeds + ")", x.year(side, seeds), m.year(side, seeds));
                break;
            }
            case 19: {
                int k = near(m.told.size() + 1);
                due("slipped(" + k + ", -1)", x.slipped(k, -1), m.slipped(k, -1));
                due("slipped(" + k + ", " + i + ")", x.slipped(k, i), m.slipped(k, i));
                break;
            }
            case 20: {
                int k = near(m.told.size() + 1);
                due("thinks(" + man + ", " + k + ")", x.thinks(man, k), m.thinks(man, k));
                break;
            }
            default:
                if (random.nextInt(4) == 0) {
                    askAll(man, motion);
                } else {
                    askOne(man, motion, near(16));
                }
        }
    }

    private void askAll(int man, int motion) {
        for (int what = -1; what <= 16; what++) {
            askOne(man, motion, what);
        }
    }

    private void askOne(int man, int motion, int what) {
        due("count(" + what + ")", x.count(what), m.count(what));
        due("man(" + man + ", " + what + ")", x.man(man, what), m.man(man, what));
        due("motion(" + motion + ", " + what + ")", x.motion(motion, what), m.motion(motion, what));
    }

    private void askState() {
        for (int what = 0; what < 15; what++) {
            due("count(" + what + ")", x.count(what), m.count(what));
        }
        for (int man = 0; man < 7; man++) {
            for (int what = 0; what < 10; what++) {
                due("man(" + man + ", " + what + ")", x.man(man, what), m.man(man, what));
            }
        }
        for (int motion = 0; motion < 5; motion++) {
            due("motion(" + motion + ", 0)", x.motion(motion, 0), m.motion(motion, 0));
            due("motion(" + motion + ", 1)", x.motion(motion, 1), m.motion(motion, 1));
        }
    }

    private String goodText(int quiet) {
        StringBuilder s = new StringBuilder();
        int sides = 2 + random.nextInt(2);
        s.append("sides ").append(sides).append(";");
        for (int i = most(7, quiet); i > 0; i--) {
            s.append("man m").append((char) ('a' + i)).append(' ').append(random.nextInt(sides)).append(' ');
            s.append(1 + random.nextInt(9)).append(' ').append(random.nextInt(11)).append(' ');
            s.append(random.nextInt(random.nextInt(4) == 0 ? 1000 : 40)).append(";\n");
        }
        for (int i = most(5, quiet); i > 0; i--) {
            s.append("motion o").append((char) ('a' + i)).append(' ').append(random.nextInt(4)).append(' ');
            s.append(random.nextInt(100)).append(' ').append(random.nextInt(100)).append(";\t");
        }
        for (int i = most(8, quiet); i > 0; i--) {
            s.append("juror j").append((char) ('a' + i)).append(' ').append(random.nextInt(sides)).append(";\r");
        }
        s.append(random.nextInt(4) == 0 ? "" : argues());
        s.append(random.nextInt(4) == 0 ? "" : marks());
        s.append(random.nextInt(3) == 0 ? "" : "fines = " + law() + ";");
        s.append(random.nextInt(3) == 0 ? "" : "seed " + random.nextInt(10000) + ";");
        return s.toString();
    }

    /** Laws by which things mostly are neither the least nor the most that can be. */
    private String argues() {
        return random.nextInt(3) == 0 ? "argues = " + law() + ";"
            : "argues = skill + slip * " + random.nextInt(4) + " + praise - manner + sworn * 2 - day + which / 2;";
    }

    private String marks() {
        return random.nextInt(3) == 0 ? "marks = " + law() + ";"
            : "marks = good - " + random.nextInt(4) + " + lean * " + random.nextInt(4) + " + praise / 3 + slip - "
                + "sworn + (which + good) / 3 - manner / 2 + day;";
    }

    /** How many of a sort: few men and many of the rest are what tells most. */
    private int most(int n, int quiet) {
        return quiet == 0 ? random.nextInt(n + 1) : quiet == 1 ? Math.max(n - random.nextInt(2), 0) : 1 + random.nextInt(n - 1);
    }

    private String law() {
        StringBuilder s = new StringBuilder();
        for (int i = random.nextInt(4); i > 0; i--) {
            s.append("if ").append(e(2)).append(" < ").append(e(2)).append(" then ").append(e(2)).append(" else ");
        }
        return s.append(e(3)).toString();
    }

    private String e(int depth) {
        StringBuilder s = new StringBuilder(unit(depth));
        for (int i = random.nextInt(3); i > 0; i--) {
            s.append(" ").append("+-*/+-*+-".charAt(random.nextInt(9))).append(" ").append(unit(depth));
        }
        return s.toString();
    }

    private String unit(int depth) {
        int kind = random.nextInt(8);
        if (kind == 0 && depth > 0) {
            return "(" + e(depth - 1) + ")";
        }
        if (kind <= 2) {
            return "" + (random.nextInt(12) == 0 ? random.nextInt(10000) : random.nextInt(6));
        }
        return VARS[random.nextInt(VARS.length)];
    }

    private String anyText() {
        String text = random.nextInt(3) == 0 ? crowdedText() : goodText(random.nextInt(4));
        if (coin()) {
            for (int i = random.nextInt(4); i > 0; i--) {
                text = anotherNumber(text);
            }
        } else {
            for (int i = random.nextInt(3); i > 0; i--) {
                text = spoilt(text);
            }
        }
        return text.length() > 2000 ? text.substring(0, 2000) : text;
    }

    /** A letter or a digit becomes another one: a name twice, a number out of its bounds. */
    private String anotherNumber(String text) {
        boolean digit = coin();
        for (int tries = 0; tries < 300; tries++) {
            int at = random.nextInt(text.length() + 1);
            if (digit && at < text.length() && Character.isDigit(text.charAt(at))) {
                return text.substring(0, at) + random.nextInt(200) + text.substring(at + 1);
            }
            if (!digit && at > 0 && at < text.length() - 1 && "moj".indexOf(text.charAt(at - 1)) >= 0
                && text.charAt(at + 1) == ' ') {
                return text.substring(0, at) + (char) ('a' + random.nextInt(9)) + text.substring(at + 1);
            }
        }
        return text;
    }

    private String spoilt(String text) {
        int at = random.nextInt(text.length() + 1);
        int end = Math.min(text.length(), at + random.nextInt(3));
        String[] other = {"", ";", "=", "(", ")", "+", "if", "then", "else", "9", "12345", "abcdefgh", "abcdefghi", "man",
            "ma", "seed 1;", " ", ".", "A", "\u0000", "\u00ff", "sides 2;", "sides 4;", "juror ja 2;", "man ma 0 1 11 0;",
            "motion q 0 100 0;", "<", "0", "3", "skill"};
        return text.substring(0, at) + other[random.nextInt(other.length)] + text.substring(end);
    }

    /** A text with about as many of something as there is room for. */
    private String crowdedText() {
        int n = 3 + random.nextInt(8);
        StringBuilder s = new StringBuilder();
        switch (random.nextInt(6)) {
            case 0:
                for (int i = 0; i < n; i++) {
                    s.append("man ").append((char) ('a' + i)).append(" 0 1 0 0;");
                }
                return s.toString();
            case 1:
                for (int i = 0; i < n; i++) {
                    s.append("motion ").append((char) ('a' + i)).append(" 0 1 0;");
                }
                return s.toString();
            case 2:
                for (int i = 0; i < n; i++) {
                    s.append("juror ").append((char) ('a' + i)).append(" 1;");
                }
                return s.toString();
            case 3:
                return "marks=" + "(".repeat(n) + "good" + ")".repeat(n) + ";";
            case 4:
                return "fines=" + "if 1<2 then 3 else ".repeat(n - 2) + "4;";
            default:
                return "argues=" + "1+".repeat(195 + random.nextInt(5)) + "1;" + "sides 2;".repeat(random.nextInt(3));
        }
    }
}
