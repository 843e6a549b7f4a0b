/** For each promise of the document: ordinary inputs, its edges, wrong inputs; answers worked out by hand. */
public final class PromisesTest {
    /**
     * a pleads for 1: SUM 16, slipped 25; b for 2: SUM 13, slipped 22; c for 0: SUM 22, slipped 27.
     * By seed 7 on day 0 a slips (lot 0), b does not (lot 9), c does, as ever.
     */
    private static final String BASE = "sides 3; man a 0 5 3 20; man b 1 4 0 9; man c 2 7 10 0; motion m 10 20 30;"
        + " motion n 1 2 3; juror x 0; juror y 1; juror z 2; argues = skill + praise + slip * 3; marks = good + lean;"
        + " fines = good / 2; seed 7;";
    private static final int BIG = Integer.MAX_VALUE;
    private static final int LOW = Integer.MIN_VALUE;

    private PromisesTest() {
    }

    public static void main(String[] args) {
        readme();
        newObject();
        tape();
        faultsOfForm();
        faultsOfRoom();
        faultsOfSense();
        readPutsInPlace();
        laws();
        man();
        motion();
        argues();
        markAndSum();
        speak();
        praise();
        reads();
        swear();
        session();
        undo();
        now();
        likely();
        change();
        choose();
        mumble();
        jury();
        say();
        fine();
        ahead();
        harsh();
        praiseFor();
        old();
        year();
        tellAndForget();
        slipped();
        thinks();
        holdAndRestore();
        count();
        Check.end("PromisesTest");
    }

    private static void due(String call, long got, long want) {
        Check.due(call, got, want);
    }

    private static void due(String call, boolean got, boolean want) {
        Check.due(call, got, want);
    }

    /** BASE with all three speaking plainly on motion m. */
    private static WorseSenate speaking() {
        WorseSenate x = Check.of(BASE);
        for (int man = 0; man < 3; man++) {
            due("1 speak", x.speak(man, 0, 0), true);
        }
        return x;
    }

    /** README.md's own use of the class. */
    private static void readme() {
        WorseSenate x = new WorseSenate();
        putAsReadme(x, "man ann 0 5 2 50; man bo 1 6 0 20; motion road 10 20 0; juror pip 0; juror quin 1;"
            + "argues = skill + praise - manner; marks = good + lean; fines = good / 2;");
        due("README read", x.read(), 0);
        due("README speak", x.speak(0, 0, 0), true);
        due("README speak", x.speak(1, 0, 0), true);
        due("README sum", x.sum(0, false), 11);
        due("README now", x.now(0, -1), 0);
        due("README praiseFor", x.praiseFor(0, 1, 0), 2);
        due("README change", x.change(0, 1, 1), 2);
        due("README session", x.session(0), 0);
        due("README man", x.man(0, 3), 48);
        due("README undo", x.undo(), true);
        x = new WorseSenate();
        putAsReadme(x, "sides 2;man ann 0 5 2 50;motion road 10 20 0;juror pip 0;argues = skill + praise - manner;"
            + "marks = if lean < 1 then good else 9;fines = good / 2;seed 7;");
        due("README's TELLs", x.read(), 0);
    }

    private static void putAsReadme(WorseSenate x, String text) {
        int[] w = new int[5];
        for (int from = 0; from < text.length(); from += 20) {
            for (int i = 0; i < 20; i++) {
                w[i / 4] = w[i / 4] << 8 | (from + i < text.length() ? text.charAt(from + i) : ' ');
            }
            x.feed(w[0], w[1], w[2], w[3], w[4]);
        }
    }

    private static void newObject() {
        WorseSenate x = new WorseSenate();
        int[] all = {2, 0, 0, 0, 0, 0, 0, 0, 0, 0, 0, 0, 0, 0, 0};
        for (int what = 0; what < all.length; what++) {
            due("1 count(" + what + ")", x.count(what), all[what]);
        }
        due("1 place", x.place(), WorseSenate.NONE);
        due("1 man", x.man(0, 0), -1);
        due("1 motion", x.motion(0, 0), -1);
        due("1 undo", x.undo(), false);
        due("1 restore", x.restore(0), false);
        due("1 year", x.year(1, 20), 0);
        due("1 slipped", x.slipped(0, -1), 1);
    }

    private static void tape() {
        WorseSenate x = new WorseSenate();
        for (int i = 1; i <= 100; i++) {
            due("2 feed", x.feed(-1, 0, BIG, LOW, 0x20202020), 20 * i);
        }
        due("2 feed over", x.feed(0, 0, 0, 0, 0), -1);
        due("2 nothing comes", x.count(8), 2000);
        due("3 back", x.back(1), 1999);
        due("2 feed over by one", x.feed(0, 0, 0, 0, 0), -1);
        due("3 back 0", x.back(0), 1999);
        due("3 back to 1981", x.back(18), 1981);
        due("2 feed over 2000 by one", x.feed(0, 0, 0, 0, 0), -1);
        due("3 back to 1980", x.back(1), 1980);
        due("2 feed to 2000", x.feed(0, 0, 0, 0, 0), 2000);
        due("3 back again", x.back(1), 1999);
        due("3 back below 0", x.back(-1), -1);
        due("3 back least", x.back(LOW), -1);
        due("3 back too many", x.back(2000), -1);
        due("3 back most", x.back(BIG), -1);
        due("3 nothing goes", x.count(8), 1999);
        due("3 back all", x.back(1999), 0);
        due("3 back of none", x.back(1), -1);
        // "seed", " 123", "4;se", "ed 5", ";   ": the highest byte first, a first.
        due("2 feed text", x.feed(0x73656564, 0x20313233, 0x343b7365, 0x65642035, 0x3b202020), 20);
        due("4 read", x.read(), 0);
        due("4 tape is empty", x.count(8), 0);
        due("4 read of nothing", x.read(), 0);
        // A high byte is no token, wherever it stands.
        due("2 feed high", x.feed(0x20202080, 0, 0, 0, 0), 20);
        due("4 read high", x.read(), 1);
        due("5 place", x.place(), 3);
        due("5 place again", x.place(), 3);
        due("4 read then", x.read(), 0);
        due("5 place of none", x.place(), -1);
    }

    private static void faultsOfForm() {
        String[] fine = {"", " \t\n\r", "sides 2;sides 3;", "man a 0 1 0 0;", "man abcdefgh 0 1 0 0;", "seed 0007;",
            "seed1;", "marks=good;", "argues = if 1<2 then 3 else if 1 < 2 then 4 else 5;", "fines=(((((1)))));",
            "man manx 0 1 0 0;juror ifs 1;"};
        for (String text : fine) {
            Check.of(text);
        }
        Check.fault("manners", 1, 0);
        Check.fault(" x", 1, 1);
        Check.fault(";", 1, 0);
        Check.fault(".", 1, 0);
        Check.fault("sides", 1, 5);
        Check.fault("sides ", 1, 6);
        Check.fault("sides ;", 1, 6);
        Check.fault("sides a;", 1, 6);
        Check.fault("sides 2", 1, 7);
        Check.fault("sides 2 2;", 1, 8);
        Check.fault("sides 22222;", 1, 6);
        Check.fault("sides 2;;", 1, 8);
        Check.fault("Sides 2;", 1, 0);
        Check.fault("man abcdefghi 0 1 0 0;", 1, 4);
        Check.fault("man man 0 1 0 0;", 1, 4);
        Check.fault("man sworn 0 1 0 0;", 1, 4);
        Check.fault("man 0 1 0 0;", 1, 4);
        Check.fault("man a 0 1 0;", 1, 11);
        Check.fault("man a 0 1 0 0 0;", 1, 14);
        Check.fault("man a 0 1 0 b;", 1, 12);
        Check.fault("motion a 0 1;", 1, 12);
        Check.fault("motion a 0 1 2 3;", 1, 15);
        Check.fault("juror a;", 1, 7);
        Check.fault("juror a 1 1;", 1, 10);
        Check.fault("seed -1;", 1, 5);
        Check.fault("seed 12345;", 1, 5);
        Check.fault("marks good;", 1, 6);
        Check.fault("marks =;", 1, 7);
        Check.fault("marks = ", 1, 8);
        Check.fault("marks = 1", 1, 9);
        Check.fault("marks = -1;", 1, 8);
        Check.fault("marks = 1 2;", 1, 10);
        Check.fault("marks = 1+;", 1, 10);
        Check.fault("marks = 1+*2;", 1, 10);
        Check.fault("marks = bad;", 1, 8);
        Check.fault("marks = man;", 1, 8);
        Check.fault("marks = ();", 1, 9);
        Check.fault("marks = (1;", 1, 10);
        Check.fault("marks = 1);", 1, 9);
        Check.fault("marks = (1));", 1, 11);
        Check.fault("marks = (if 1<2 then 3 else 4);", 1, 9);
        Check.fault("marks = 1 + if 1<2 then 3 else 4;", 1, 12);
        Check.fault("marks = if 1 then 3 else 4;", 1, 13);
        Check.fault("marks = if 1<2 else 4;", 1, 15);
        Check.fault("marks = if 1<2<3 then 3 else 4;", 1, 14);
        Check.fault("marks = if (1<2) then 3 else 4;", 1, 13);
        Check.fault("marks = if 1<2 then 3;", 1, 21);
        Check.fault("marks = if 1<2 then if 1<2 then 3 else 4 else 5;", 1, 20);
        Check.fault("marks = if if 1<2 then 3 else 4;", 1, 11);
        Check.fault("marks = then;", 1, 8);
        Check.fault("marks = 1 < 2;", 1, 10);
        Check.fault("marks = 1 else 2;", 1, 10);
        Check.fault("marks = 12345;", 1, 8);
        Check.fault("seed 1; \u00e9", 1, 8);
        Check.fault("seed 1\u0000;", 1, 6);
    }

    private static String many(String head, int n, String tail) {
        StringBuilder s = new StringBuilder();
        for (int i = 0; i < n; i++) {
            s.append(head).append((char) ('a' + i)).append(tail);
        }
        return s.toString();
    }

    private static void faultsOfRoom() {
        String men = many("man ", 7, " 0 1 0 0;");
        due("4 seven men", Check.of(men).count(1), 7);
        Check.fault(men + " man z 0 1 0 0;", 2, men.length() + 1);
        Check.fault(men + " man", 2, men.length() + 1);
        Check.fault(men + "mans", 1, men.length());
        String motions = many("motion ", 5, " 0 1 0;");
        due("4 five motions", Check.of(motions).count(2), 5);
        Check.fault(motions + "motion z 0 1 0;", 2, motions.length());
        String jurors = many("juror ", 8, " 1;");
        due("4 eight jurors", Check.of(jurors).count(3), 8);
        Check.fault(jurors + "juror z 1;", 2, jurors.length());
        String anIf = "if 1<2 then 3 else ";
        Check.of("marks = " + anIf.repeat(4) + "1;marks = " + anIf.repeat(4) + "1;");
        Check.fault("marks = " + anIf.repeat(5) + "1;", 2, 8 + 4 * anIf.length());
        Check.of("marks = ((((((1)))))) + ((((((1))))));");
        Check.fault("marks = (((((((1)))))));", 2, 14);
        Check.fault("marks = 1 + ((((((1 + (2)))))));", 2, 22);
        // 133 TELLs of 3 tokens: 399; one more has its second token as the 401st.
        String sides = "sides 2;".repeat(133);
        Check.of(sides);
        Check.fault(sides + "sides 2;", 2, sides.length() + 6);
        Check.fault(sides + "sides x;", 1, sides.length() + 6);
        Check.fault(sides + "sides", 1, sides.length() + 5);
        Check.fault(sides + "x", 1, sides.length());
        // "fines = " with 198 times "1 +" and "1 ;" has 400 tokens.
        Check.of("fines=" + "1+".repeat(198) + "1;");
        Check.fault("fines=" + "1+".repeat(198) + "1;sides", 2, 6 + 2 * 198 + 2);
        Check.fault("fines=" + "1+".repeat(198) + "1;?", 1, 6 + 2 * 198 + 2);
        Check.fault("fines=" + "1+".repeat(198) + "1+", 1, 6 + 2 * 198 + 2);
        Check.fault("fines=" + "1+".repeat(199) + "1;", 2, 6 + 2 * 199);
        // What is first by its place counts, of form or of room.
        Check.fault("x" + men + "man", 1, 0);
        Check.fault("sides 9;" + men + "man", 2, 8 + men.length());
    }

    private static void faultsOfSense() {
        Check.fault("man a 0 1 0 0;man a 0 1 0 0;", 3, 18);
        Check.fault("man a 0 1 0 0;motion a 0 1 0;", 3, 21);
        Check.fault("motion b 0 1 0;juror a 0;juror b 0;", 3, 31);
        Check.fault("man a 0 0 0 0;man a 0 1 0 0;", 5, 8);
        Check.fault("man a 0 1 0 0;man a 0 0 0 0;", 3, 18);
        Check.fault("juror a 1;juror ab 1;juror ab 1;", 3, 27);
        Check.fault("sides 1;", 5, 6);
        Check.fault("sides 4;", 5, 6);
        Check.fault("sides 4;sides 2;", 5, 6);
        Check.fault("sides 3;man a 3 1 0 0;", 5, 14);
        Check.fault("man a 0 0 0 0;", 5, 8);
        Check.fault("man a 0 10 0 0;", 5, 8);
        Check.fault("man a 0 1 11 0;", 5, 10);
        Check.fault("man a 0 1 0 1000;", 5, 12);
        Check.of("sides 3;man a 2 9 10 999;man b 0 1 0 0;");
        Check.fault("motion a 100 0 0;", 5, 9);
        Check.fault("motion a 0 100 0;", 5, 11);
        Check.fault("motion a 0 0 100;", 5, 13);
        Check.of("motion a 99 99 99;motion b 0 0 0;");
        Check.fault("sides 3;juror a 3;", 5, 16);
        Check.of("juror a 0;juror b 1;seed 9999;marks=9999;");
        Check.fault("man a 2 1 0 0; ", 5, 15);
        Check.fault("juror a 2;", 5, 10);
        Check.fault("sides 3;juror a 2;sides 2;", 5, 26);
        Check.of("juror a 2;man b 2 1 0 0;sides 3;");
        Check.fault("man a 2 1 0 0;juror a 0;", 3, 20);
        Check.fault("man a 0 0 0 0;x", 1, 14);
    }

    private static void readPutsInPlace() {
        WorseSenate x = speaking();
        x.praise(0);
        x.swear(1, 2);
        x.session(0);
        x.speak(2, 1, 0);
        x.hold(1);
        x.tell(0, 1);
        Check.put(x, "sides 4;");
        int[] before = new int[15];
        for (int what = 0; what < 15; what++) {
            before[what] = what == 8 ? 0 : x.count(what);
        }
        due("4 read with a fault", x.read(), 5);
        for (int what = 0; what < 15; what++) {
            due("4 a fault changes nothing: count(" + what + ")", x.count(what), before[what]);
        }
        due("4 undo stays", x.undo(), true);
        due("4 slot stays", x.restore(1), true);
        Check.put(x, BASE);
        due("4 read", x.read(), 0);
        int[] all = {3, 3, 2, 3, 0, 0, 0, 0, 0, 0, 0, 0, 29, 0, 0};
        for (int what = 0; what < 15; what++) {
            due("4 count(" + what + ")", x.count(what), all[what]);
        }
        due("4 nothing can be undone", x.undo(), false);
        due("4 slots hold nothing", x.restore(1), false);
        int[] a = {0, 0, 1, 20, -2, -2, 0, -2, -2, 0};
        for (int what = 0; what < 10; what++) {
            due("4 man(0, " + what + ")", x.man(0, what), a[what]);
        }
        due("4 no motion has fallen", x.motion(0, 0), -2);
        Check.put(x, "");
        due("4 read of nothing", x.read(), 0);
        due("4 nobody", x.count(1), 0);
        due("4 two sides", x.count(0), 2);
    }

    /** GOOD of a man with skill 6, manner 3, not slipped, by a law. */
    private static void law(String law, int want) {
        WorseSenate x = Check.of("man a 0 1 0 0;man b 0 6 0 0;argues = " + law + ";");
        due("II " + law, x.argues(1, 3, false), want);
    }

    private static void laws() {
        law("1 + 2 * 3", 7);
        law("(1 + 2) * 3", 9);
        law("20 - 5 - 3", 12);
        law("40 / 4 / 2", 5);
        law("40 / 4 * 2", 20);
        law("7 / 2 * 2 + 10 - 3 * 2", 10);
        law("2 * (3 + 4 * (1 + 1)) - 1", 21);
        law("skill * 10 + manner", 63);
        law("which + 4", 5);
        law("good + lean + praise + day + sworn + slip", 0);
        law("100", 99);
        law("0 - 5", 0);
        law("50 + (0 - 7) / 2", 47);
        // 9999 to the third wraps to -1027349969; rounded down it would be 49.
        law("60 + 9999 * 9999 * 9999 / 9999 / 9999", 50);
        law("5 / 0", 0);
        law("5 + 7 / (skill - 6)", 0);
        law("if 1 < 2 then 5 else 6", 5);
        law("if 2 < 2 then 5 else 6", 6);
        law("if 3 < 2 then 5 else 6", 6);
        law("if 2 < 1 then 5 else if 1 < 2 then 6 else 7", 6);
        law("if 1 < 2 then 5 else if 1 < 2 then 6 else 7", 5);
        law("if 2 < 1 then 5 else if 2 < 1 then 6 else 7", 7);
        law("if 2 < 1 then 1 / 0 else 7", 7);
        law("if 1 < 2 then 7 else 1 / 0", 7);
        law("if 1 < 2 then 7 else if 1 / 0 < 1 then 8 else 9", 7);
        law("if 1 / 0 < 2 then 7 else 8", 0);
        law("if 1 < 2 / 0 then 7 else 8", 0);
        law("if 2 < 1 then 7 else if 0 < 1 / 0 then 8 else 9", 0);
        law("if 0 - 1 < 0 then 7 else 8", 7);
        // 65536 * 32768 wraps to the least int; by -1 it stays that.
        law("if 4096 * 16 * 4096 * 8 < 0 then 7 else 8", 7);
        law("if (4096 * 16 * 4096 * 8) / (0 - 1) < 0 then 7 else 8", 7);
        law("10; argues = 11", 11);
        // As many steps as there can be: 14 tokens of men, 2 ahead of the law, 384 of it.
        law("50 + " + "1 - 1 + ".repeat(95) + "3", 53);
        law("skill; argues = ".repeat(95) + "1 / 1", 1);
        law("90 - (2 * (3 + (4 - (5 + (6 - (7 + 8 * 2) * 2) * 1))))", 6);
        WorseSenate x = Check.of("man a 0 6 0 9;motion m 0 0 0;juror j 0;");
        x.speak(0, 0, 0);
        due("II ARGUES not told", x.argues(0, 3, true), 6);
        due("II MARKS not told", x.sum(0, false), 6);
        due("II FINES not told", x.fine(0, false), 0);
        x = Check.of("man a 0 6 0 50;motion m 0 0 0;juror j 0;marks = 5 / good;argues = 0;fines = 7 / lean + 3;");
        x.speak(0, 0, 0);
        due("II MARKS by 0 are held to 1", x.sum(0, false), 1);
        due("II FINES by 0", x.fine(0, false), 0);
    }

    private static void man() {
        WorseSenate x = Check.of(BASE);
        int[][] all = {{0, 0, 1, 20, -2, -2, 0, -2, -2, 0}, {1, 0, 2, 9, -2, -2, 0, -2, -2, 0},
            {2, 0, 0, 0, -2, -2, 0, -2, -2, 0}};
        for (int man = 0; man < 3; man++) {
            for (int what = 0; what < 10; what++) {
                due("6 man(" + man + ", " + what + ")", x.man(man, what), all[man][what]);
            }
        }
        x.speak(0, 1, 3);
        x.praise(0);
        x.swear(0, 2);
        x.speak(1, 0, 0);
        x.session(0);
        x.reads(0, 1);
        int[] a = {2, 1, 0, 16, 1, 3, 1, -2, 1, 0};
        for (int what = 0; what < 10; what++) {
            due("6 man(0, " + what + ") then", x.man(0, what), a[what]);
        }
        // The fine of b is half of 13 / 3, and he got 4 for his speech.
        due("6 coins of b", x.man(1, 3), 9 - 2 + 4);
        due("6 b's speech", x.man(1, 7), 4);
        for (int wrong : new int[] {-1, 3, 7, BIG, LOW}) {
            due("6 no such man", x.man(wrong, 0), -1);
        }
        for (int wrong : new int[] {-1, 10, BIG, LOW}) {
            due("6 no such what", x.man(0, wrong), -1);
        }
    }

    private static void motion() {
        WorseSenate x = Check.of(BASE);
        int[] m = {-2, 0, 10, 20, 30};
        for (int what = 0; what < 5; what++) {
            due("7 motion(0, " + what + ")", x.motion(0, what), m[what]);
        }
        x.speak(0, 1, 0);
        x.speak(2, 1, 1);
        due("7 who", x.motion(1, 1), 5);
        x.session(1);
        due("7 fell", x.motion(1, 0), 1);
        due("7 nobody then", x.motion(1, 1), 0);
        due("7 worth", x.motion(1, 4), 3);
        for (int wrong : new int[] {-1, 2, BIG, LOW}) {
            due("7 no such motion", x.motion(wrong, 0), -1);
        }
        for (int wrong : new int[] {-1, 5, BIG, LOW}) {
            due("7 no such what", x.motion(0, wrong), -1);
        }
    }

    private static void argues() {
        WorseSenate x = Check.of("sides 3;man a 0 1 0 50;man b 1 2 0 50;motion m 0 0 0;motion n 0 0 0;juror j 0;"
            + "argues = skill + manner * 2 + slip * 10 + praise * 20 + day + sworn * 5 + which * 3 + good + lean;");
        due("8 plain", x.argues(0, 0, false), 1);
        due("8 clumsy", x.argues(0, 3, false), 7);
        due("8 slipped", x.argues(0, 0, true), 11);
        due("8 which", x.argues(1, 0, false), 5);
        x.praise(0);
        due("8 praised", x.argues(0, 1, false), 23);
        x.swear(1, 0);
        due("8 sworn", x.argues(1, 0, false), 10);
        x.speak(1, 0, 0);
        x.session(0);
        due("8 day", x.argues(1, 0, false), 11);
        x.speak(0, 1, 0);
        x.reads(0, 1);
        due("8 what he reads is not looked at", x.argues(0, 0, false), 22);
        for (int i = 0; i < 8; i++) {
            x.praise(0);
        }
        due("8 held", x.argues(0, 0, false), 99);
        due("8 no such man", x.argues(2, 0, false), -1);
        due("8 no such man below", x.argues(-1, 0, false), -1);
        due("8 no such manner", x.argues(0, 4, false), -1);
        due("8 no such manner below", x.argues(0, -1, false), -1);
    }

    private static void markAndSum() {
        WorseSenate x = Check.of(BASE);
        due("9 silent", x.mark(0, 0, false), -2);
        due("10 silent", x.sum(0, false), -2);
        due("9 silent, no such juror", x.mark(3, 0, false), -1);
        due("9 no such man", x.mark(0, 3, false), -1);
        due("10 no such man", x.sum(3, false), -1);
        due("10 no such man below", x.sum(-1, false), -1);
        x.speak(0, 0, 0);
        int[] plain = {5, 6, 5};
        int[] slipped = {8, 9, 8};
        for (int juror = 0; juror < 3; juror++) {
            due("9 mark", x.mark(juror, 0, false), plain[juror]);
            due("9 mark slipped", x.mark(juror, 0, true), slipped[juror]);
        }
        due("10 sum", x.sum(0, false), 16);
        due("10 sum slipped", x.sum(0, true), 25);
        due("9 no such juror", x.mark(3, 0, false), -1);
        due("9 no such juror below", x.mark(-1, 0, false), -1);
        x.speak(0, 0, 1);
        due("9 a mumble", x.mark(1, 0, true), 4);
        due("10 a mumble", x.sum(0, false), 12);
        x.speak(0, 0, 2);
        due("9 a joke: odd", x.mark(0, 0, false), 4);
        due("9 a joke: even", x.mark(1, 0, false), 6);
        x.swear(0, 1);
        due("9 sworn: he pleads for what he left", x.mark(0, 0, false), 6);
        due("9 sworn: not for the next", x.mark(1, 0, false), 4);
        x = Check.of("man a 0 9 0 0;motion m 0 0 0;juror x 1;juror y 0;argues = praise;"
            + "marks = if which < 1 then good else day + manner + slip * 2 + sworn * 3 + praise + skill - 7;");
        x.speak(0, 0, 2);
        due("9 a joke of 1 is 2", x.mark(0, 0, false), 2);
        due("9 manner, skill", x.mark(1, 0, false), 4);
        due("9 slip", x.mark(1, 0, true), 6);
        x.swear(0, 1);
        x.praise(0);
        due("9 sworn, praise", x.mark(1, 0, false), 8);
        for (int i = 0; i < 8; i++) {
            x.praise(0);
        }
        due("9 held to 9, a joke", x.mark(1, 0, false), 8);
        x.speak(0, 0, 0);
        due("9 held to 9", x.mark(1, 0, false), 9);
        x = Check.of("man a 0 9 0 0;motion m 0 0 0;");
        x.speak(0, 0, 0);
        due("10 no jurors", x.sum(0, false), 0);
        due("9 no jurors", x.mark(0, 0, false), -1);
    }

    private static void speak() {
        WorseSenate x = Check.of(BASE);
        due("11 speak", x.speak(0, 1, 3), true);
        due("11 it is so", x.speak(0, 1, 3), false);
        due("11 another manner", x.speak(0, 1, 2), true);
        due("11 manner", x.man(0, 5), 2);
        due("11 another motion", x.speak(0, 0, 2), true);
        due("11 one at a time", x.motion(1, 1), 0);
        due("11 motion", x.man(0, 4), 0);
        due("11 silent again", x.speak(0, -1, 77), true);
        due("11 silent", x.man(0, 4), -2);
        due("11 silent manner", x.man(0, 5), -2);
        due("11 silent already", x.speak(0, -1, 0), false);
        int done = x.count(9);
        due("11 no such man", x.speak(3, 0, 0), false);
        due("11 no such man below", x.speak(-1, 0, 0), false);
        due("11 no such man is silent", x.speak(3, -1, 0), false);
        due("11 no such motion", x.speak(0, 2, 0), false);
        due("11 no such motion below", x.speak(0, -2, 0), false);
        due("11 no such manner", x.speak(0, 0, 4), false);
        due("11 no such manner below", x.speak(0, 0, -1), false);
        due("11 nothing happens", x.count(9), done);
        x.speak(0, 0, 0);
        x.session(0);
        due("11 it has fallen", x.speak(1, 0, 0), false);
        // One who reads another's speech reads it on, on whatever he speaks, till he is silent.
        x.speak(1, 1, 0);
        due("11 reads", x.reads(1, 0), 1);
        x.speak(1, 1, 3);
        due("11 reads in another manner", x.man(1, 8), 0);
        x.speak(1, -1, 0);
        due("11 silent reads nothing", x.man(1, 8), -2);
        x.speak(1, 1, 0);
        due("11 nor later", x.man(1, 8), -2);
        due("11 sum of his own then", x.sum(1, false), 13);
    }

    private static void praise() {
        WorseSenate x = Check.of(BASE);
        for (int i = 1; i <= 9; i++) {
            due("12 praise", x.praise(1), i);
        }
        due("12 ten times", x.praise(1), -2);
        due("12 nothing happens", x.count(9), 9);
        due("12 how often", x.man(1, 6), 9);
        due("12 another", x.man(0, 6), 0);
        due("12 no such one", x.praise(3), -1);
        due("12 no such one below", x.praise(-1), -1);
        x.speak(1, 0, 0);
        due("12 sum", x.sum(1, false), 27);
        x.praise(0);
        x.session(0);
        due("12 gone with the speech", x.man(1, 6), 0);
        due("12 not of who did not speak", x.man(0, 6), 1);
    }

    private static void reads() {
        WorseSenate x = Check.of(BASE);
        due("13 on nothing", x.reads(0, 1), -2);
        x.speak(0, 1, 0);
        due("13 none is kept", x.reads(0, 1), -2);
        due("13 himself", x.reads(0, 0), -1);
        due("13 no such one", x.reads(3, 0), -1);
        due("13 no such other", x.reads(0, 3), -1);
        due("13 below", x.reads(-1, 0), -1);
        due("13 other below", x.reads(0, -1), -1);
        x.speak(1, 0, 0);
        x.speak(2, 0, 0);
        x.session(0);
        // c slipped: GOOD 10; b: GOOD 4; fines 4 (of 0 coins: none) and 2.
        due("13 kept", x.man(2, 7), 10);
        int done = x.count(9);
        due("13 reads", x.reads(0, 2), 10);
        due("13 who gets it", x.man(2, 3), 10);
        due("13 all coins", x.count(12), 27);
        due("13 whom", x.man(0, 8), 2);
        due("13 sum: its GOOD as it was", x.sum(0, false), 27);
        due("13 slipped makes no other GOOD", x.sum(0, true), 27);
        due("13 already", x.reads(0, 2), -2);
        due("13 one thing done", x.count(9), done + 1);
        due("13 another's", x.reads(0, 1), 6);
        due("13 sum", x.sum(0, false), 13);
        due("13 not so many", x.reads(0, 2), -2);
        due("13 nothing happens", x.man(0, 8), 1);
        x.undo();
        x.undo();
        due("13 undone", x.man(0, 8), -2);
        due("13 coins back", x.man(0, 3), 20);
        x = Check.of("man a 0 1 0 0;man b 1 9 0 5;man c 0 3 0 3;motion m 0 0 0;motion n 0 0 0;juror j 0;"
            + "motion o 0 0 0;");
        x.speak(1, 0, 0);
        x.session(0);
        x.speak(0, 1, 0);
        due("13 he has nothing", x.reads(0, 1), -2);
        x.speak(2, 1, 0);
        x.session(1);
        x.speak(1, 2, 0);
        due("13 just so many", x.reads(1, 2), 2);
        due("13 who gets it", x.man(2, 3), 6);
        x.session(2);
        due("13 the old one's GOOD is kept of it", x.man(1, 7), 3);
        due("13 read no longer", x.man(1, 8), -2);
    }

    private static void swear() {
        WorseSenate x = Check.of(BASE);
        due("14 his own", x.swear(0, 0), false);
        due("14 no such side", x.swear(0, 3), false);
        due("14 no such side below", x.swear(0, -1), false);
        due("14 no such man", x.swear(3, 0), false);
        due("14 no such man below", x.swear(-1, 0), false);
        due("14 nothing happens", x.count(9), 0);
        due("14 swears", x.swear(0, 2), true);
        due("14 side", x.man(0, 0), 2);
        due("14 sworn", x.man(0, 1), 1);
        due("14 pleads for what he left", x.man(0, 2), 0);
        due("14 once", x.swear(0, 1), false);
        due("14 not back", x.swear(0, 0), false);
        x = Check.of("man a 0 1 0 0;");
        due("14 two sides", x.swear(0, 2), false);
        due("14 to the other", x.swear(0, 1), true);
        due("14 pleads", x.man(0, 2), 0);
    }

    private static void session() {
        WorseSenate x = speaking();
        due("15 no such one", x.session(2), -1);
        due("15 no such one below", x.session(-1), -1);
        due("15 nobody speaks on it", x.session(1), -2);
        x.praise(1);
        // a slipped: 25; b, praised: 16; c slipped: 27.
        due("15 falls to", x.session(0), 0);
        due("15 again", x.session(0), -2);
        due("15 day", x.count(4), 1);
        due("15 slipped a", x.man(0, 9), 1);
        due("15 slipped b", x.man(1, 9), 0);
        due("15 slipped c", x.man(2, 9), 1);
        due("15 good a", x.man(0, 7), 8);
        due("15 good b", x.man(1, 7), 5);
        due("15 good c", x.man(2, 7), 10);
        // Fines: 25 / 3 / 2 = 4; 16 / 3 / 2 = 2; 9 / 2 = 4, of which he has none.
        due("15 coins a", x.man(0, 3), 16);
        due("15 coins b", x.man(1, 3), 7);
        due("15 coins c", x.man(2, 3), 0);
        due("15 paid", x.count(7), 6);
        due("15 praise is gone", x.man(1, 6), 0);
        due("15 silent", x.man(1, 4), -2);
        // By seed 7 on day 1 the lot of a is 5: he does not slip; of alike means the first side has it.
        x.speak(0, 1, 0);
        due("15 falls to 1", x.session(1), 1);
        due("15 day 2", x.count(4), 2);
        due("15 not slipped", x.man(0, 9), 1);
        x = Check.of("man a 0 4 0 0;motion m 0 0 0;");
        x.speak(0, 0, 0);
        due("15 no jurors", x.session(0), -2);
        due("15 nothing happens", x.count(4), 0);
        x = Check.of("man a 0 4 0 0;man b 1 4 0 0;motion m 0 0 0;juror j 0;");
        x.speak(0, 0, 0);
        x.speak(1, 0, 0);
        due("15 alike: the first", x.session(0), 0);
        // In the mean, not together: 5 and 4 for 1 are 4.5, less than 5 for 0, more than 4.
        String mean = "man a 0 5 0 0;man b 0 4 0 0;motion m 0 0 0;juror j 0;man c 1 ";
        for (int skill = 4; skill <= 5; skill++) {
            x = Check.of(mean + skill + " 0 0;");
            for (int man = 0; man < 3; man++) {
                x.speak(man, 0, 0);
            }
            due("15 mean", x.session(0), skill == 4 ? 1 : 0);
        }
        x = Check.of("man a 0 4 10 99;man b 0 4 0 99;motion m 0 0 0;juror j 0;argues = 5;fines = skill + manner * 4 "
            + "+ slip * 8 + praise * 100 + day + good + lean * 100 + which * 30 + sworn * 60;motion n 0 0 0;");
        x.speak(0, 0, 3);
        x.praise(0);
        x.session(0);
        due("15 the fine", x.man(0, 3), 99 - (4 + 12 + 8 + 5));
        x.speak(1, 1, 0);
        x.swear(1, 1);
        x.session(1);
        due("15 the fine held", x.man(1, 3), 0);
    }

    private static void undo() {
        WorseSenate x = Check.of(BASE);
        x.speak(0, 0, 0);
        x.praise(1);
        x.swear(2, 0);
        x.session(0);
        x.speak(1, 1, 2);
        x.reads(1, 0);
        due("16 things", x.count(9), 6);
        due("16 undo reads", x.undo(), true);
        due("16 coins of b", x.man(1, 3), 9);
        due("16 coins of a", x.man(0, 3), 16);
        due("16 reads nobody", x.man(1, 8), -2);
        due("16 undo speak", x.undo(), true);
        due("16 silent", x.man(1, 4), -2);
        due("16 undo session", x.undo(), true);
        due("16 day", x.count(4), 0);
        due("16 yet to fall", x.motion(0, 0), -2);
        due("16 coins", x.man(0, 3), 20);
        due("16 paid", x.count(7), 0);
        due("16 speaks", x.man(0, 4), 0);
        due("16 slips", x.count(14), 0);
        due("16 kept", x.count(13), 0);
        due("16 undo swear", x.undo(), true);
        due("16 not sworn", x.man(2, 1), 0);
        due("16 side", x.man(2, 0), 2);
        due("16 undo praise", x.undo(), true);
        due("16 praise", x.man(1, 6), 0);
        due("16 undo speak", x.undo(), true);
        due("16 nobody speaks", x.motion(0, 1), 0);
        due("16 there is none", x.undo(), false);
        for (int i = 0; i < 45; i++) {
            x.speak(0, i % 2, i % 4);
        }
        due("16 the last 40", x.count(9), 40);
        for (int i = 0; i < 40; i++) {
            due("16 undo", x.undo(), true);
        }
        due("16 no more", x.undo(), false);
        due("16 what was 40 ahead", x.man(0, 4), 0);
        x.tell(0, 3);
        x.praise(0);
        x.undo();
        due("16 told stays", x.count(10), 1);
    }

    private static void now() {
        WorseSenate x = speaking();
        due("17 side", x.now(0, -1), 0);
        due("17 for 0", x.now(0, 0), 22);
        due("17 for 1", x.now(0, 1), 16);
        due("17 for 2", x.now(0, 2), 13);
        due("17 nobody", x.now(1, -1), -2);
        due("17 nobody: sums", x.now(1, 1), 0);
        due("17 no such motion", x.now(2, -1), -1);
        due("17 no such motion below", x.now(-1, 0), -1);
        due("17 no such side", x.now(0, 3), -1);
        due("17 no such side below", x.now(0, -2), -1);
        x.swear(0, 2);
        // a pleads for 0 now: 6, 5, 5.
        due("17 together", x.now(0, 0), 38);
        due("17 in the mean", x.now(0, -1), 0);
        x.speak(2, -1, 0);
        due("17 without c", x.now(0, 0), 16);
        due("17 nothing happens", x.count(4), 0);
        x = Check.of("man a 0 4 0 0;motion m 0 0 0;");
        x.speak(0, 0, 0);
        due("17 no jurors", x.now(0, -1), -2);
        due("17 no jurors: sums", x.now(0, 1), 0);
    }

    private static void likely() {
        // a for 1: 4, slipped 8 (3 of 10); b for 0: 6, slipped 9 (5 of 10): 1 if a alone slips: 15 of 100.
        String text = "man a 0 4 3 0;man b 1 6 5 0;motion m 0 0 0;motion n 0 0 0;"
            + "argues = if skill < 5 then skill + slip * 4 else skill + slip * 3;";
        WorseSenate x = Check.of(text + "juror j 0;");
        due("18 nobody", x.likely(0, 0, false), 0);
        due("18 nobody below", x.likely(0, 0, true), 1);
        x.speak(0, 0, 0);
        due("18 alone", x.likely(0, 1, false), 1);
        due("18 alone below", x.likely(0, 1, true), 1);
        x.speak(1, 0, 0);
        due("18 for 1", x.likely(0, 1, false), 3);
        due("18 for 1 below", x.likely(0, 1, true), 20);
        due("18 for 0", x.likely(0, 0, false), 17);
        due("18 for 0 below", x.likely(0, 0, true), 20);
        due("18 no such motion", x.likely(2, 0, false), -1);
        due("18 no such motion below", x.likely(-1, 0, true), -1);
        due("18 no such side", x.likely(0, 2, false), -1);
        due("18 no such side below", x.likely(0, -1, true), -1);
        x.session(0);
        due("18 fallen", x.likely(0, 0, false), 0);
        due("18 fallen below", x.likely(0, 0, true), 1);
        x = Check.of(text);
        x.speak(0, 0, 0);
        due("18 no jurors", x.likely(0, 1, false), 0);
        due("18 no jurors below", x.likely(0, 1, true), 1);
        StringBuilder seven = new StringBuilder("motion m 0 0 0;juror j 0;argues = slip;marks = 1 + good;");
        for (int i = 0; i < 7; i++) {
            seven.append("man ").append((char) ('a' + i)).append(i < 6 ? " 0" : " 1").append(" 1 1 0;");
        }
        x = Check.of(seven.toString());
        for (int man = 0; man < 7; man++) {
            x.speak(man, 0, 0);
        }
        // It falls to 1 unless g slips or none of the others does: 9 * (10^6 - 9^6) of 10^7, but that all six slip
        // beside g's slip is alike and falls to 0.
        due("18 seven", x.likely(0, 1, false), 4217031);
        due("18 seven below", x.likely(0, 1, true), 10000000);
    }

    private static void change() {
        WorseSenate x = speaking();
        // It falls to 0 as it is. Sworn over, a pleads for 0 (16), b for 1 (13), c for 2 (22).
        due("19 as it is", x.change(0, 0, 0), 0);
        due("19 nobody", x.change(0, 0, 1), 0);
        due("19 for 2: c", x.change(0, 2, 0), 1);
        // c with b for 2: (13 + 22) / 2 = 17.5 is more than a's 16 for 1.
        due("19 who", x.change(0, 2, 1), 4);
        // For 1: a has 16 there, b sworn over too 13: never more than what c has, unless c goes to 2 with 22.
        due("19 for 1", x.change(0, 1, 0), -2);
        due("19 for 1: who", x.change(0, 1, 1), -2);
        due("19 no such what", x.change(0, 1, 2), -1);
        due("19 no such what below", x.change(0, 1, -1), -1);
        due("19 no such motion", x.change(2, 1, 0), -1);
        due("19 no such side", x.change(0, 3, 0), -1);
        due("19 no such side below", x.change(0, -1, 0), -1);
        due("19 nobody speaks", x.change(1, 0, 0), -2);
        due("19 nothing happens", x.count(6), 0);
        x.swear(2, 1);
        due("19 sworn already", x.now(0, -1), 2);
        due("19 a sworn one is not changed", x.change(0, 0, 0), -2);
        // Alike ones: a or b going over makes it fall to 0; the least bits.
        x = Check.of("man a 0 5 0 0;man b 0 5 0 0;man c 1 4 0 0;motion m 0 0 0;juror j 0;argues = skill;");
        for (int man = 0; man < 3; man++) {
            x.speak(man, 0, 0);
        }
        due("19 falls to 1", x.now(0, -1), 1);
        // With b over, 0 has (4 + 5) / 2 to a's 5: not enough; with both, c alone pleads with them for 0.
        due("19 two", x.change(0, 0, 0), 2);
        due("19 which two", x.change(0, 0, 1), 3);
        x = Check.of("man a 0 5 0 0;man b 0 5 0 0;man c 1 9 0 0;motion m 0 0 0;juror j 0;argues = skill - sworn * 4;"
            + "marks = good;");
        x.speak(0, 0, 0);
        x.speak(1, 0, 0);
        // One of both goes over with 1 to the other's 5; only both do.
        due("19 sworn argue worse", x.change(0, 0, 1), 3);
        x = Check.of("sides 3;man a 0 5 0 0;man b 0 5 0 0;motion m 0 0 0;juror j 0;");
        x.speak(0, 0, 0);
        x.speak(1, 0, 0);
        due("19 alike: least bits", x.change(0, 0, 1), 1);
        due("19 alike: one", x.change(0, 0, 0), 1);
        due("19 never to 2", x.change(0, 2, 0), -2);
    }

    private static void choose() {
        // a, b, c, d of 0 plead for 1; e of 1 pleads for 0 with 5. To have it fall to 0, they lose their speeches.
        String text = "man a 0 5 0 0;man b 0 9 5 0;man c 0 9 0 0;man d 0 9 0 0;man e 1 5 0 0;motion m 0 0 0;"
            + "motion n 0 0 0;juror j 0;argues = skill - manner * 2;";
        WorseSenate x = Check.of(text);
        due("20 nobody", x.choose(0, 0, 0), -1);
        due("21 nobody", x.chosen(0, 0, false), 0);
        due("21 nobody below", x.chosen(0, 0, true), 1);
        for (int man = 0; man < 5; man++) {
            x.speak(man, 0, 0);
        }
        // d stays at 9; 11 for the others at most: plain a has 5: then 6 for b and c: 4 and joke 4 are too many,
        // clumsy 3, so b 3, c 3; 5 + 3 + 3 + 9 = 20.
        due("20 first", x.choose(0, 0, 0), 0);
        due("20 second", x.choose(0, 0, 1), 3);
        due("20 third", x.choose(0, 0, 2), 3);
        due("20 three at most", x.choose(0, 0, 3), -1);
        due("21 chosen", x.chosen(0, 0, false), 1);
        due("21 chosen below", x.chosen(0, 0, true), 1);
        due("20 as it is likeliest", x.choose(0, 1, 0), 0);
        due("21 other side", x.chosen(0, 1, false), 1);
        due("20 not so many", x.choose(0, 1, 1), -1);
        due("20 below", x.choose(0, 0, -1), -1);
        due("20 most", x.choose(0, 0, BIG), -1);
        due("20 no such motion", x.choose(2, 0, 0), -1);
        due("20 no such motion below", x.choose(-1, 0, 0), -1);
        due("20 no such side", x.choose(0, 2, 0), -1);
        due("21 no such motion", x.chosen(2, 0, true), -1);
        due("21 no such side", x.chosen(0, 2, true), -1);
        due("21 no such side below", x.chosen(0, -1, true), -1);
        due("20 nothing happens", x.man(1, 5), 0);
        // By slips: a of 0 pleads for 1, b of 1 for 0 with 5. Plain a has 4, slipped 6 (3 of 10).
        x = Check.of("man a 0 4 3 0;man b 1 5 0 0;motion m 0 0 0;juror j 0;argues = skill + slip * 2;"
            + "marks = if 0 < manner then 9 - manner * slip else good;");
        x.speak(0, 0, 3);
        x.speak(1, 0, 0);
        due("20 likeliest", x.choose(0, 0, 0), 1);
        due("21 likeliest", x.chosen(0, 0, false), 1);
        // For 1 b would plead as badly as he can: a mumble has 4, and with that a's 9, less 3 if slipped, is more.
        due("20 for 1", x.choose(0, 1, 0), 0);
        due("21 for 1", x.chosen(0, 1, false), 1);
        x.speak(0, 0, 0);
        // a has 4 or 6 then: a mumble of b's is alike to 4 and falls to 0: only by the slip it falls to 1, as plain.
        due("20 first of alike ones", x.choose(0, 1, 0), 0);
        due("21 by slips", x.chosen(0, 1, false), 3);
        due("21 by slips below", x.chosen(0, 1, true), 10);
        // Who reads, reads yet.
        x = Check.of("man a 0 9 0 9;man b 1 2 0 0;man c 1 3 0 0;motion m 0 0 0;motion n 0 0 0;juror j 0;"
            + "argues = skill - manner;");
        x.speak(1, 0, 0);
        x.session(0);
        x.speak(0, 1, 0);
        x.reads(0, 1);
        x.speak(2, 1, 0);
        due("20 reads 2 plainly", x.choose(1, 0, 0), 0);
        due("21 reads", x.chosen(1, 0, false), 1);
        // The manners of sworn ones are chosen for the side that they are of now.
        x.swear(2, 0);
        due("20 sworn over", x.choose(1, 0, 1) >= 0, true);
        x = Check.of("man a 0 9 5 9;motion m 0 0 0;");
        x.speak(0, 0, 3);
        due("20 no jurors", x.choose(0, 0, 0), 0);
        due("21 no jurors", x.chosen(0, 0, false), 0);
        due("21 no jurors below", x.chosen(0, 0, true), 1);
    }

    private static void mumble() {
        // a of 0 pleads for 1 with 6, b of 1 for 0 with 5; mumbles have 4.
        String text = "man a 0 6 0 0;man b 1 5 0 0;motion m 10 20 0;motion n 10 0 0;juror j 0;";
        WorseSenate x = Check.of(text);
        due("22 nobody", x.mumble(0, -1), 1);
        due("22 nobody: the empty set", x.mumble(0, 0), 0);
        x.speak(0, 0, 0);
        x.speak(1, 0, 0);
        // {}: to 1; a would mumble (5 to 4: to 0). {a}: 4 to 5: to 0; b would mumble? 4 to 4 falls to 0 yet: a rest.
        // {b}: 6 to 4: to 1: a would mumble. {a, b}: to 0; b gains nothing alone (5 to 4): a rest.
        due("22 how many", x.mumble(0, -1), 2);
        due("22 first", x.mumble(0, 0), 1);
        due("22 second", x.mumble(0, 1), 3);
        due("22 not so many", x.mumble(0, 2), -1);
        due("22 below", x.mumble(0, -2), -1);
        due("22 most", x.mumble(0, BIG), -1);
        due("22 no such motion", x.mumble(2, -1), -1);
        due("22 no such motion below", x.mumble(-1, -1), -1);
        due("22 nothing happens", x.man(0, 5), 0);
        // Worth nothing to 1: b never gains, a still does.
        x.speak(0, 1, 0);
        x.speak(1, 1, 0);
        due("22 worth", x.mumble(1, -1), 2);
        // One whose manner is a mumble may be in the set or not.
        x.speak(0, 1, 1);
        due("22 a mumble anyway", x.mumble(1, -1), 4);
        x.speak(0, 0, 1);
        x = Check.of("man a 0 6 0 0;man b 1 3 0 0;man c 0 6 0 0;motion m 0 20 0;juror j 0;");
        x.speak(1, 0, 0);
        x.speak(2, 0, 0);
        // Bits are of the men's numbers; to 0 it is worth nothing: c never gains. It falls to 1 but for {b, c}, where
        // b with 3 instead of 4 has it fall to 1 too.
        due("22 bits: how many", x.mumble(0, -1), 3);
        due("22 bits: 0", x.mumble(0, 0), 0);
        due("22 bits: 1", x.mumble(0, 1), 2);
        due("22 bits: 2", x.mumble(0, 2), 4);
        x = Check.of("man a 0 6 0 0;motion m 9 9 9;");
        x.speak(0, 0, 0);
        due("22 no jurors", x.mumble(0, -1), 2);
    }

    private static void jury() {
        WorseSenate x = speaking();
        // Marks by x: 5, 4, 8 (for 1, 2, 0); y: 6, 4, 7; z: 5, 5, 7. Apart: 4, 3, 2.
        due("23 one", x.jury(0, 1, 0), 4);
        due("23 one: how far", x.jury(0, 1, 1), 200);
        // x, y: 11, 8, 15: 7; x, z: 10, 9, 15: 6; y, z: 11, 9, 14: 5.
        due("23 two", x.jury(0, 2, 0), 6);
        due("23 two: how far", x.jury(0, 2, 1), 500);
        due("23 three", x.jury(0, 3, 0), 7);
        due("23 three: how far", x.jury(0, 3, 1), 900);
        due("23 not so many", x.jury(0, 4, 0), -2);
        due("23 not so many: eight", x.jury(0, 8, 1), -2);
        due("23 no such n", x.jury(0, 9, 0), -1);
        due("23 no such n: 0", x.jury(0, 0, 0), -1);
        due("23 no such what", x.jury(0, 1, 2), -1);
        due("23 no such what below", x.jury(0, 1, -1), -1);
        due("23 no such motion", x.jury(2, 1, 0), -1);
        due("23 nobody", x.jury(1, 1, 0), -2);
        x.speak(0, -1, 0);
        x.speak(1, -1, 0);
        due("23 one side: least bits", x.jury(0, 2, 0), 3);
        due("23 one side: how far", x.jury(0, 2, 1), 0);
        // Means of 3 speeches: 5 + 5 + 4 to 4: 2 / 3 apart.
        x = Check.of("man a 0 5 0 0;man b 0 5 0 0;man c 0 4 0 0;man d 1 4 0 0;motion m 0 0 0;juror i 0;juror j 1;"
            + "juror k 1;marks = good + lean * which;");
        for (int man = 0; man < 4; man++) {
            x.speak(man, 0, 0);
        }
        due("23 rounded down", x.jury(0, 1, 1), 66);
        due("23 rounded: who", x.jury(0, 1, 0), 1);
        due("23 all", x.jury(0, 3, 1), 500);
    }

    private static void say() {
        WorseSenate x = Check.of(BASE);
        // A silent man may be asked; a: marks are good + 0, 1, 0, each 1 .. 9.
        due("24 nothing", x.say(0, 0), 0);
        due("24 three", x.say(0, 3), 0);
        due("24 four", x.say(0, 4), 1);
        due("24 sixteen", x.say(0, 16), 5);
        due("24 seventeen", x.say(0, 17), 6);
        due("24 most", x.say(0, 27), 9);
        due("24 too many", x.say(0, 28), -2);
        due("24 by none", x.say(0, 99), -2);
        due("24 no such sum", x.say(0, 100), -1);
        due("24 no such sum below", x.say(0, -1), -1);
        due("24 no such man", x.say(3, 0), -1);
        due("24 no such man below", x.say(-1, 0), -1);
        x.speak(0, 0, 1);
        due("24 plain, whatever he is to speak", x.say(0, 27), 9);
        x = Check.of("man a 0 5 0 0;motion m 0 0 0;juror j 0;marks = if good < 98 then 3 - good + praise else good;");
        due("24 least of all", x.say(0, 3), 0);
        due("24 far", x.say(0, 4), 98);
        x.praise(0);
        due("24 praised", x.say(0, 4), 0);
        x = Check.of("man a 0 5 0 0;juror j 0;marks = if good < 99 then 1 else 9;");
        due("24 the greatest GOOD", x.say(0, 9), 99);
        x = Check.of("man a 0 5 0 0;marks = good;");
        due("24 no jurors", x.say(0, 0), 0);
        due("24 no jurors by none", x.say(0, 1), -2);
    }

    private static void fine() {
        WorseSenate x = Check.of(BASE);
        due("25 silent", x.fine(0, false), -2);
        x.speak(0, 0, 0);
        due("25 fine", x.fine(0, false), 2);
        due("25 slipped", x.fine(0, true), 4);
        x.speak(2, 0, 0);
        due("25 no more than he has", x.fine(2, false), 0);
        due("25 no such one", x.fine(3, false), -1);
        due("25 no such one below", x.fine(-1, true), -1);
        due("25 nothing happens", x.man(0, 3), 20);
        x = Check.of("man a 0 5 0 50;motion m 0 0 0;fines = 9;");
        x.speak(0, 0, 0);
        due("25 no jurors", x.fine(0, false), -2);
        x = Check.of("man z 0 1 0 0;man a 0 5 0 500;motion m 0 0 0;juror j 0;fines = good * 10 + praise * 40 + which "
            + "+ manner + slip * 3 + sworn * 4 + lean * 40;");
        x.speak(1, 0, 0);
        x.praise(1);
        due("25 which, no praise", x.fine(1, false), 51);
        x.speak(1, 0, 3);
        due("25 manner, slip", x.fine(1, true), 57);
        x.swear(1, 1);
        due("25 sworn", x.fine(1, true), 61);
        x = Check.of("man a 0 5 0 500;motion m 0 0 0;juror j 0;fines = 100;");
        x.speak(0, 0, 0);
        due("25 held", x.fine(0, false), 99);
        x = Check.of("man a 0 5 0 500;motion m 0 0 0;juror j 0;fines = 1 - 2;");
        x.speak(0, 0, 0);
        due("25 not below 0", x.fine(0, false), 0);
    }

    private static void ahead() {
        WorseSenate x = speaking();
        due("26 ahead of the next", x.ahead(0), 600);
        due("26 nobody", x.ahead(1), -2);
        due("26 no such one", x.ahead(2), -1);
        due("26 no such one below", x.ahead(-1), -1);
        x.speak(0, -1, 0);
        due("26 ahead of another", x.ahead(0), 900);
        x.speak(1, -1, 0);
        due("26 one side", x.ahead(0), -2);
        x = Check.of("man a 0 5 0 0;man b 0 5 0 0;man c 0 4 0 0;man d 1 4 0 0;motion m 0 0 0;juror i 0;");
        for (int man = 0; man < 4; man++) {
            x.speak(man, 0, 0);
        }
        due("26 rounded down", x.ahead(0), 66);
        x = Check.of("man a 0 4 0 0;man d 1 4 0 0;motion m 0 0 0;juror i 0;");
        x.speak(0, 0, 0);
        x.speak(1, 0, 0);
        due("26 alike", x.ahead(0), 0);
        x = Check.of("man a 0 4 0 0;man d 1 4 0 0;motion m 0 0 0;");
        x.speak(0, 0, 0);
        x.speak(1, 0, 0);
        due("26 no jurors", x.ahead(0), -2);
    }

    private static void harsh() {
        WorseSenate x = speaking();
        // x gives 5 + 4 + 8, y 6 + 4 + 7, z 5 + 5 + 7: all 17.
        due("27 alike: the first", x.harsh(0, false), 0);
        due("27 alike: the first kind one", x.harsh(0, true), 0);
        x.speak(0, -1, 0);
        // x 12, y 11, z 12.
        due("27 harsh", x.harsh(0, false), 1);
        due("27 kind", x.harsh(0, true), 0);
        x.speak(2, -1, 0);
        // b's: 4, 4, 5.
        due("27 harsh: first", x.harsh(0, false), 0);
        due("27 kind: last", x.harsh(0, true), 2);
        due("27 nobody", x.harsh(1, false), -2);
        due("27 no such one", x.harsh(2, false), -1);
        due("27 no such one below", x.harsh(-1, true), -1);
        x = Check.of("man a 0 4 0 0;motion m 0 0 0;");
        x.speak(0, 0, 0);
        due("27 no jurors", x.harsh(0, true), -2);
    }

    private static void praiseFor() {
        WorseSenate x = speaking();
        due("28 falls to it", x.praiseFor(0, 0, 0), 0);
        // a needs more than 22: good 8 has 25 (3 praises), 7 has 22, alike with 0.
        due("28 praise", x.praiseFor(0, 1, 0), 3);
        x.praise(0);
        due("28 once less", x.praiseFor(0, 1, 0), 2);
        // b: 13 + 3 each: 25 by 4.
        due("28 b", x.praiseFor(0, 2, 1), 4);
        due("28 not by that one", x.praiseFor(0, 2, 0), -2);
        due("28 not on it", x.praiseFor(1, 2, 1), -2);
        due("28 no such motion", x.praiseFor(2, 2, 1), -1);
        due("28 no such side", x.praiseFor(0, 3, 1), -1);
        due("28 no such side below", x.praiseFor(0, -1, 1), -1);
        due("28 no such man", x.praiseFor(0, 2, 3), -1);
        due("28 no such man below", x.praiseFor(0, 2, -1), -1);
        due("28 nothing happens", x.man(0, 6), 1);
        x = Check.of("man a 0 1 0 0;man b 1 4 0 0;motion m 0 0 0;juror j 0;argues = if praise < 9 then 1 else 4 + slip "
            + "+ skill - which * praise / 5;");
        x.speak(0, 0, 0);
        x.speak(1, 0, 0);
        due("28 nine in all", x.praiseFor(0, 1, 0), 9);
        for (int i = 0; i < 9; i++) {
            x.praise(1);
        }
        due("28 nine are there", x.praiseFor(0, 1, 1), -2);
        due("28 nine are there and it is so", x.praiseFor(0, 0, 1), 0);
        x = Check.of("man a 0 1 0 0;motion m 0 0 0;");
        x.speak(0, 0, 0);
        due("28 no jurors", x.praiseFor(0, 1, 0), -2);
    }

    private static void old() {
        WorseSenate x = Check.of(BASE);
        due("29 on nothing", x.old(0, 1), -10000);
        x.speak(0, 1, 0);
        due("29 none is kept", x.old(0, 1), -10000);
        x.speak(1, 0, 0);
        x.speak(2, 0, 0);
        x.session(0);
        due("29 less", x.old(0, 1), 13 - 16);
        due("29 more", x.old(0, 2), 27 - 16);
        due("29 himself", x.old(0, 0), -10000);
        due("29 no such one", x.old(3, 0), -10000);
        due("29 no such other", x.old(0, 3), -10000);
        due("29 below", x.old(-1, 0), -10000);
        due("29 other below", x.old(0, -1), -10000);
        x.speak(2, 1, 0);
        due("29 c has no coins, whatever it costs", x.old(2, 1), 13 - 22);
        x.reads(0, 2);
        due("29 he reads it", x.old(0, 2), 0);
        due("29 in its place", x.old(0, 1), 13 - 27);
        due("29 nothing happens", x.man(0, 8), 2);
    }

    private static void year() {
        // a's slip decides m (to 1 by it), c's slip decides n. Lots: a on day 0 by seeds 7 .. 10: 0 1 6 6;
        // c on day 1: 0 1 3 7 (on day 0 they were 5 8 4 0).
        String text = "man a 0 1 2 0;man b 1 3 0 0;man c 0 1 2 0;man d 1 3 0 0;motion m 10 20 0;motion n 3 5 0;"
            + "juror x 0;argues = skill + slip * 5;seed 7;";
        WorseSenate x = Check.of(text);
        due("30 nobody", x.year(1, 4), 0);
        x.speak(0, 0, 0);
        x.speak(1, 0, 0);
        due("30 one seed", x.year(1, 1), 20);
        due("30 two", x.year(1, 2), 40);
        due("30 three", x.year(1, 3), 40);
        due("30 other side", x.year(0, 4), 20);
        x.speak(2, 1, 0);
        x.speak(3, 1, 0);
        due("30 two motions", x.year(1, 4), 50);
        due("30 two motions: other side", x.year(0, 4), 26);
        due("30 no such side", x.year(2, 1), -1);
        due("30 no such side below", x.year(-1, 1), -1);
        due("30 no seeds", x.year(0, 0), -1);
        due("30 too many", x.year(0, 21), -1);
        due("30 most", x.year(0, 20) + x.year(1, 20) > 0, true);
        due("30 nothing happens", x.count(4), 0);
        // n alone, on day 0: c's lots are 5 8 4 0: by seed 10 alone.
        x.speak(0, -1, 0);
        x.speak(1, -1, 0);
        due("30 no session where nobody speaks", x.year(1, 4), 5);
        x.session(1);
        due("30 fallen", x.year(1, 4), 0);
        x = Check.of("man a 0 1 2 0;man b 1 3 0 0;motion m 10 20 0;motion n 3 5 0;juror x 0;seed 7;"
            + "marks = if day < 1 then good else 9 - good;");
        x.speak(1, 0, 0);
        x.speak(0, 1, 0);
        // Days go on among the motions of a year; each has one side alone.
        due("30 alone", x.year(0, 3), 30);
        due("30 alone: 1", x.year(1, 3), 15);
        // The day as it is when it is asked: on day 1 the lots of c are 0 1 3 7, on day 2 he speaks by 3 5 6 2.
        x = Check.of(text + "motion o 1 2 0;");
        x.speak(0, 2, 0);
        x.session(2);
        x.speak(2, 1, 0);
        x.speak(3, 1, 0);
        due("30 from this day on", x.year(1, 4), 10);
        due("30 seed 9999", Check.of("seed 9999;motion m 0 0 0;").year(0, 20), 0);
        x = Check.of("man a 0 1 4 0;man b 1 3 0 0;motion m 10 20 0;juror x 0;argues = skill + slip * 5;seed 9999;");
        x.speak(1, 0, 0);
        x.speak(0, 0, 0);
        // Lots of a: 5 by 9999, 6 by 10000, 5 by 0: a greater seed is one more, not 0.
        due("30 beyond 9999", x.year(0, 2), 20);
        x = Check.of("man a 0 1 4 0;motion m 10 20 0;");
        x.speak(0, 0, 0);
        due("30 no jurors", x.year(1, 2), 0);
    }

    private static void tellAndForget() {
        WorseSenate x = Check.of(BASE);
        due("32 nothing", x.forget(), 0);
        for (int i = 0; i < 20; i++) {
            due("31 tell", x.tell(i % 3, i * 5), i);
        }
        due("31 20 are there", x.tell(0, 0), -1);
        due("31 how many", x.count(10), 20);
        due("32 forget", x.forget(), 20);
        due("32 none", x.count(10), 0);
        due("32 forget again", x.forget(), 0);
        due("31 no such man", x.tell(3, 0), -1);
        due("31 no such man below", x.tell(-1, 0), -1);
        due("31 no such sum", x.tell(0, 100), -1);
        due("31 no such sum below", x.tell(0, -1), -1);
        due("31 nothing happens", x.count(10), 0);
        due("31 from 0 on", x.tell(0, 99), 0);
        due("31 next", x.tell(0, 0), 1);
        due("31 cannot be undone", x.undo(), false);
    }

    private static void slipped() {
        WorseSenate x = Check.of(BASE);
        due("33 nobody speaks", x.slipped(0, -1), 1);
        due("33 the empty set", x.slipped(0, 0), 0);
        x.tell(0, 16);
        due("33 known, but silent", x.slipped(1, -1), 0);
        due("33 known, but silent: none", x.slipped(1, 0), -1);
        due("33 not known by 0", x.slipped(0, -1), 1);
        x.speak(0, 0, 0);
        x.speak(2, 1, 0);
        due("33 a held", x.slipped(1, -1), 2);
        due("33 first", x.slipped(1, 0), 0);
        due("33 second", x.slipped(1, 1), 4);
        due("33 not so many", x.slipped(1, 2), -1);
        due("33 none known", x.slipped(0, -1), 4);
        due("33 none known: last", x.slipped(0, 3), 5);
        x.tell(2, 27);
        due("33 c slipped", x.slipped(2, -1), 1);
        due("33 who", x.slipped(2, 0), 4);
        x.tell(0, 25);
        due("33 both cannot be", x.slipped(3, -1), 0);
        due("33 the first two", x.slipped(2, -1), 1);
        due("33 no such k", x.slipped(4, -1), -1);
        due("33 no such k below", x.slipped(-1, -1), -1);
        due("33 no such i", x.slipped(2, -2), -1);
        due("33 most", x.slipped(2, BIG), -1);
        // As he is to speak as it is asked: a mumbles now, slipped or not.
        x.forget();
        x.tell(0, 12);
        due("33 not so", x.slipped(1, -1), 0);
        x.speak(0, 0, 1);
        due("33 a mumble", x.slipped(1, -1), 4);
    }

    private static void thinks() {
        WorseSenate x = Check.of("sides 3;man a 0 5 0 0;motion m 0 0 0;juror x 0;juror y 0;juror z 1;"
            + "argues = skill + slip;marks = good + lean;");
        due("34 nothing known", x.thinks(0, 0), 7);
        x.tell(0, 17);
        due("34 known, but silent", x.thinks(0, 1), 0);
        due("34 silent, not known", x.thinks(0, 0), 7);
        x.speak(0, 0, 0);
        // Pleading for 0 (of 2): 17, slipped 20; for 1 (of 0): 16, 19; for 2 (of 1): 15, 18.
        due("34 of 2", x.thinks(0, 1), 4);
        x.forget();
        x.tell(0, 19);
        due("34 slipped, of 0", x.thinks(0, 1), 1);
        x.tell(0, 16);
        due("34 both cannot be", x.thinks(0, 2), 0);
        due("34 the first", x.thinks(0, 1), 1);
        x.forget();
        x.tell(0, 14);
        due("34 none", x.thinks(0, 1), 0);
        due("34 no such man", x.thinks(1, 1), -1);
        due("34 no such man below", x.thinks(-1, 0), -1);
        due("34 no such k", x.thinks(0, 2), -1);
        due("34 no such k below", x.thinks(0, -1), -1);
        x.forget();
        x.tell(0, 17);
        x.swear(0, 1);
        // He pleads for 0, which he left, whatever he is of.
        due("34 sworn", x.thinks(0, 1), 7);
        x.forget();
        x.tell(0, 16);
        due("34 sworn: none", x.thinks(0, 1), 0);
        x = speaking();
        x.tell(1, 99);
        due("34 another is known", x.thinks(0, 1), 7);
    }

    private static void holdAndRestore() {
        WorseSenate x = speaking();
        due("35 no such slot", x.hold(3), false);
        due("35 no such slot below", x.hold(-1), false);
        due("36 nothing is held", x.restore(0), false);
        due("36 no such slot", x.restore(3), false);
        due("36 no such slot below", x.restore(-1), false);
        due("36 nothing happens", x.count(9), 3);
        due("35 hold", x.hold(2), true);
        due("35 slots", x.count(11), 1);
        due("35 things stay", x.count(9), 3);
        x.tell(0, 3);
        x.praise(0);
        x.session(0);
        x.hold(0);
        due("35 two slots", x.count(11), 2);
        x.feed(0, 0, 0, 0, 0);
        due("36 restore", x.restore(2), true);
        due("36 nothing can be undone", x.undo(), false);
        due("36 day", x.count(4), 0);
        due("36 praise", x.man(0, 6), 0);
        due("36 speaks", x.motion(0, 1), 7);
        due("36 told stays", x.count(10), 1);
        due("36 the tape stays", x.count(8), 20);
        x.praise(0);
        due("36 goes on", x.undo(), true);
        due("36 it stays there", x.restore(2), true);
        due("36 another", x.restore(0), true);
        due("36 day 1", x.count(4), 1);
        due("36 fallen", x.count(5), 1);
        due("36 paid", x.count(7), 6);
        due("35 anew", x.hold(2), true);
        due("36 anew", x.restore(2), true);
        due("36 day of it", x.count(4), 1);
        due("36 slots", x.count(11), 2);
    }

    private static void count() {
        WorseSenate x = speaking();
        x.praise(0);
        x.session(0);
        x.swear(1, 0);
        x.swear(2, 0);
        x.tell(0, 0);
        x.hold(1);
        x.feed(0, 0, 0, 0, 0);
        int[] all = {3, 3, 2, 3, 1, 1, 6, 6, 20, 7, 1, 1, 23, 7, 2};
        for (int what = 0; what < 15; what++) {
            due("37 count(" + what + ")", x.count(what), all[what]);
        }
        for (int wrong : new int[] {-1, 15, BIG, LOW}) {
            due("37 no such", x.count(wrong), -1);
        }
        x.speak(1, 1, 0);
        x.session(1);
        due("37 bits of motions", x.count(5), 3);
        due("37 day", x.count(4), 2);
    }
}
