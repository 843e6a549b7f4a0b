/** A test of its own for each sentence of part II, and of promises 6 to 16, that names an edge. */
public final class PleadEdgesTest {
    private static final int BIG = Integer.MAX_VALUE;
    private static final int LOW = Integer.MIN_VALUE;
    private static final int[] NO_MEN = {-1, 2, 7, BIG, LOW};

    private PleadEdgesTest() {
    }

    public static void main(String[] args) {
        speeches();
        marks();
        laws();
        sessions();
        byHand();
        looks();
        deeds();
        Check.end("PleadEdgesTest");
    }

    private static void due(String call, long got, long want) {
        Check.due(call, got, want);
    }

    private static void due(String call, boolean got, boolean want) {
        Check.due(call, got, want);
    }

    private static void speeches() {
        Check.sentence("A MAN PLEADS FOR the SIDE behind his own in the ring (behind the last one the first)",
            PleadEdgesTest::ring);
        Check.sentence("a SWORN one for the SIDE that he left.", PleadEdgesTest::swornPlead);
        Check.sentence("MANNERS: 0 plain, 1 a mumble, 2 a joke, 3 clumsy.", PleadEdgesTest::manners);
        Check.sentence("GOOD of a SPEECH: what ARGUES tells, held to 0 .. 99", PleadEdgesTest::goodIsHeld);
        Check.sentence("slip: 1 if sense slips out, else 0", PleadEdgesTest::slipVar);
        Check.sentence("praise: how often he was praised since he spoke last", PleadEdgesTest::praiseVar);
        Check.sentence("sworn: 1 or 0", PleadEdgesTest::swornVar);
        Check.sentence("which: the MAN's number (good, lean 0)", PleadEdgesTest::whichMan);
        Check.sentence("of an old SPEECH that is read: its GOOD as it was.", PleadEdgesTest::oldGood);
    }

    private static void ring() {
        int[][] pleads = {{1, 0}, {1, 2, 0}};
        for (int sides = 2; sides <= 3; sides++) {
            for (int side = 0; side < sides; side++) {
                WorseSenate x = Check.of("sides " + sides + ";man a " + side + " 5 0 0;motion m 0 0 0;juror j 0;");
                due("of " + side + " by " + sides, x.man(0, 2), pleads[sides - 2][side]);
                x.speak(0, 0, 0);
                due("falls to", x.now(0, -1), pleads[sides - 2][side]);
            }
        }
    }

    private static void swornPlead() {
        for (int from = 0; from < 3; from++) {
            for (int to = 0; to < 3; to++) {
                if (from != to) {
                    WorseSenate x = Check.of("sides 3;man a " + from + " 5 0 0;motion m 0 0 0;juror j 0;");
                    x.speak(0, 0, 0);
                    due("swear", x.swear(0, to), true);
                    due("from " + from + " to " + to, x.man(0, 2), from);
                    due("falls to", x.session(0), from);
                    due("he is of", x.man(0, 0), to);
                }
            }
        }
    }

    private static void manners() {
        WorseSenate x = Check.of("man a 0 5 0 0;motion m 0 0 0;juror j 0;argues=5+manner;");
        for (int manner = 0; manner < 4; manner++) {
            due("argues " + manner, x.argues(0, manner, false), 5 + manner);
            due("speak " + manner, x.speak(0, 0, manner), true);
            due("manner", x.man(0, 5), manner);
        }
        int[] marks = {5, 4, 6, 8};
        for (int manner = 0; manner < 4; manner++) {
            x.speak(0, 0, manner);
            due("mark in " + manner, x.mark(0, 0, false), marks[manner]);
        }
        for (int wrong : new int[] {-1, 4, BIG, LOW}) {
            due("argues " + wrong, x.argues(0, wrong, false), -1);
            due("speak " + wrong, x.speak(0, 0, wrong), false);
        }
    }

    /** GOOD of a man with skill 6, who is MAN 1, by a law. */
    private static int good(String law) {
        return Check.of("man z 0 1 0 0;man a 0 6 0 0;argues=" + law + ";").argues(1, 0, false);
    }

    private static void goodIsHeld() {
        due("-1", good("0-1"), 0);
        due("0", good("0"), 0);
        due("1", good("1"), 1);
        due("98", good("98"), 98);
        due("99", good("99"), 99);
        due("100", good("100"), 99);
        due("greatest", good("4096*16*4096*8-1"), 99);
        due("least", good("4096*16*4096*8"), 0);
        // What is kept of it is held too, and what MARKS take of it.
        WorseSenate x = Check.of("man a 0 6 0 0;motion m 0 0 0;juror j 0;argues=900;marks=good-92;");
        x.speak(0, 0, 0);
        due("mark", x.mark(0, 0, false), 7);
        x.session(0);
        due("kept", x.man(0, 7), 99);
        x = Check.of("man a 0 6 0 0;motion m 0 0 0;juror j 0;argues=0-9;marks=good+5;");
        x.speak(0, 0, 0);
        due("mark of nothing", x.mark(0, 0, false), 5);
        x.session(0);
        due("kept of nothing", x.man(0, 7), 0);
    }

    private static void slipVar() {
        WorseSenate x = Check.of("man a 0 2 10 0;man b 1 2 0 0;motion m 0 0 0;juror j 0;argues=5+slip*2;"
            + "marks=good+slip;fines=slip;");
        due("argues", x.argues(0, 0, false), 5);
        due("argues slipped", x.argues(0, 0, true), 7);
        x.speak(0, 0, 0);
        x.speak(1, 0, 0);
        due("sum", x.sum(0, false), 5);
        due("sum slipped", x.sum(0, true), 8);
        x.session(0);
        due("kept of who slipped", x.man(0, 7), 7);
        due("kept of who did not", x.man(1, 7), 5);
    }

    private static void praiseVar() {
        WorseSenate x = Check.of("man a 0 2 0 0;man b 1 2 0 0;motion m 0 0 0;motion n 0 0 0;juror j 0;"
            + "argues=praise*10;marks=praise+1;");
        due("never", x.argues(0, 0, false), 0);
        x.praise(0);
        x.praise(0);
        due("twice, silent", x.argues(0, 0, false), 20);
        x.speak(0, 0, 0);
        due("to speak is not to have spoken", x.argues(0, 0, false), 20);
        due("mark", x.mark(0, 0, false), 3);
        x.praise(1);
        x.speak(0, -1, 0);
        due("nor is to be silent again", x.argues(0, 0, false), 20);
        x.speak(0, 0, 0);
        x.session(0);
        due("he spoke", x.argues(0, 0, false), 0);
        due("kept with it", x.man(0, 7), 20);
        due("of who did not speak", x.argues(1, 0, false), 10);
        x.praise(0);
        due("since then", x.argues(0, 0, false), 10);
    }

    private static void swornVar() {
        WorseSenate x = Check.of("man a 0 2 0 9;man b 0 2 0 9;motion m 0 0 0;juror j 0;argues=5+sworn;"
            + "marks=good+sworn*2;fines=sworn;");
        x.speak(0, 0, 0);
        x.speak(1, 0, 0);
        x.swear(0, 1);
        due("argues", x.argues(0, 0, false), 6);
        due("argues, not sworn", x.argues(1, 0, false), 5);
        due("mark", x.mark(0, 0, false), 8);
        due("mark, not sworn", x.mark(0, 1, false), 5);
        due("fine", x.fine(0, false), 1);
        due("fine, not sworn", x.fine(1, false), 0);
    }

    private static void whichMan() {
        StringBuilder text = new StringBuilder("argues=which*10+good+lean;motion m 0 0 0;juror x 1;fines=which;");
        for (int man = 0; man < 7; man++) {
            text.append("man ").append((char) ('a' + man)).append(" 0 1 0 99;");
        }
        WorseSenate x = Check.of(text.toString());
        for (int man = 0; man < 7; man++) {
            due("argues of " + man, x.argues(man, 0, false), 10 * man);
            x.speak(man, 0, 0);
            due("fine of " + man, x.fine(man, false), man);
        }
    }

    private static void oldGood() {
        // GOOD is skill and day; b's of day 0 is 3, of day 2 it is 5.
        WorseSenate x = Check.of("man a 0 9 0 50;man b 1 3 10 50;motion m 0 0 0;motion n 0 0 0;motion o 0 0 0;"
            + "motion p 0 0 0;juror j 0;argues=skill+day+praise*3;marks=good+slip+praise;");
        x.speak(1, 0, 0);
        x.session(0);
        x.speak(0, 1, 0);
        due("reads", x.reads(0, 1), 47);
        due("as it was", x.sum(0, false), 3);
        due("slip is his own", x.sum(0, true), 4);
        x.praise(0);
        due("praise counts in MARKS alone", x.sum(0, false), 4);
        x.speak(1, 2, 0);
        x.session(2);
        due("the other one's speech is another now", x.man(1, 7), 4);
        due("the one that is read is as it was", x.sum(0, false), 4);
        x.session(1);
        due("it is kept as his", x.man(0, 7), 3);
        x.speak(1, 3, 0);
        due("who read is read", x.reads(1, 0), 50);
        due("its good", x.sum(1, false), 3);
    }

    private static void marks() {
        Check.sentence("MARK of a JUROR for it: 4 for a mumble", PleadEdgesTest::mumbles);
        Check.sentence("else what MARKS tells, held to 1 .. 9", PleadEdgesTest::markIsHeld);
        Check.sentence("lean: 1 if the JUROR leans to the SIDE for which is pleaded, else 0", PleadEdgesTest::leans);
        Check.sentence("day, manner, slip, praise, sworn as for that; skill: the MAN's", PleadEdgesTest::varsOfMarks);
        Check.sentence("which: the JUROR's number", PleadEdgesTest::whichJuror);
        Check.sentence("for a joke an odd MARK is 1 less (1: it is 2).", PleadEdgesTest::jokes);
        Check.sentence("SUM of a SPEECH: all MARKS.", PleadEdgesTest::allMarks);
    }

    private static void mumbles() {
        for (int mark = 0; mark <= 10; mark++) {
            WorseSenate x = Check.of("man a 0 1 0 0;motion m 0 0 0;juror j 1;juror k 0;marks=lean+" + mark + ";");
            x.speak(0, 0, 1);
            due("mark", x.mark(0, 0, false), 4);
            due("mark slipped", x.mark(1, 0, true), 4);
            due("sum", x.sum(0, true), 8);
        }
        // Also of what is read; its GOOD is what ARGUES tells.
        WorseSenate x = Check.of("man a 0 1 0 9;man b 0 8 0 9;motion m 0 0 0;motion n 0 0 0;juror j 1;"
            + "argues=skill-manner;");
        x.speak(1, 0, 1);
        x.session(0);
        due("good", x.man(1, 7), 7);
        x.speak(0, 1, 1);
        x.reads(0, 1);
        due("a mumble that is read", x.sum(0, false), 4);
        x.speak(0, 1, 0);
        due("read plainly", x.sum(0, false), 7);
    }

    private static int markBy(String law, int manner) {
        WorseSenate x = Check.of("man a 0 6 0 0;motion m 0 0 0;juror j 0;marks=" + law + ";");
        x.speak(0, 0, manner);
        return x.mark(0, 0, false);
    }

    private static void markIsHeld() {
        due("-1", markBy("0-1", 0), 1);
        due("0", markBy("0", 0), 1);
        due("1", markBy("1", 0), 1);
        due("2", markBy("2", 0), 2);
        due("8", markBy("8", 0), 8);
        due("9", markBy("9", 0), 9);
        due("10", markBy("10", 0), 9);
        due("greatest", markBy("4096*16*4096*8-1", 3), 9);
        due("least", markBy("4096*16*4096*8", 3), 1);
        due("by 0", markBy("5/0", 0), 1);
    }

    private static void leans() {
        WorseSenate x = Check.of("sides 3;man a 1 6 0 0;motion m 0 0 0;juror p 0;juror q 1;juror r 2;"
            + "marks=2+lean*5;");
        x.speak(0, 0, 0);
        for (int juror = 0; juror < 3; juror++) {
            due("for 2", x.mark(juror, 0, false), juror == 2 ? 7 : 2);
        }
        // Sworn, he pleads for 1, though he is of 2.
        x.swear(0, 2);
        for (int juror = 0; juror < 3; juror++) {
            due("for 1, of 2", x.mark(juror, 0, false), juror == 1 ? 7 : 2);
        }
    }

    /** A man with skill 7 on day 1, clumsy, twice praised, sworn or not: what a law of the whole state tells. */
    private static WorseSenate rich(String law) {
        WorseSenate x = Check.of("man z 0 1 0 0;man a 0 7 0 999;motion m 0 0 0;motion n 0 0 0;juror j 1;juror k 0;" + law);
        x.speak(0, 0, 0);
        x.session(0);
        x.speak(1, 1, 3);
        x.praise(1);
        x.praise(1);
        return x;
    }

    private static void varsOfMarks() {
        String[] vars = {"skill", "manner", "praise", "day", "slip", "sworn", "good", "lean", "which"};
        int[] plain = {7, 3, 2, 1, 0, 0, 5, 0, 1};
        int[] slipped = {7, 3, 2, 1, 1, 0, 5, 0, 1};
        // Sworn, he pleads for 0, to which k leans.
        int[] sworn = {7, 3, 2, 1, 1, 1, 5, 1, 1};
        for (int i = 0; i < vars.length; i++) {
            WorseSenate x = rich("argues=5;marks=1+" + vars[i] + ";");
            due(vars[i], x.mark(1, 1, false), 1 + plain[i]);
            due(vars[i] + ", slipped", x.mark(1, 1, true), 1 + slipped[i]);
            x.swear(1, 1);
            due(vars[i] + ", slipped, sworn", x.mark(1, 1, true), 1 + sworn[i]);
        }
    }

    private static void whichJuror() {
        StringBuilder text = new StringBuilder("man y 0 1 0 0;man z 0 1 0 0;motion m 0 0 0;marks=1+which;");
        for (int juror = 0; juror < 8; juror++) {
            text.append("juror ").append((char) ('a' + juror)).append(" 0;");
        }
        WorseSenate x = Check.of(text.toString());
        x.speak(1, 0, 0);
        for (int juror = 0; juror < 8; juror++) {
            due("mark", x.mark(juror, 1, false), 1 + juror);
        }
    }

    private static void jokes() {
        int[] want = {2, 2, 2, 2, 4, 4, 6, 6, 8, 8, 8};
        for (int mark = 0; mark <= 10; mark++) {
            due("a joke of " + mark, markBy("" + mark, 2), want[mark]);
            due("clumsily " + mark, markBy("" + mark, 3), Math.max(1, Math.min(9, mark)));
        }
        due("below 0", markBy("0-3", 2), 2);
    }

    private static void allMarks() {
        for (int jurors = 0; jurors <= 8; jurors++) {
            StringBuilder text = new StringBuilder("man y 0 1 0 0;motion m 0 0 0;marks=1+which;");
            for (int juror = 0; juror < jurors; juror++) {
                text.append("juror ").append((char) ('a' + juror)).append(" 0;");
            }
            WorseSenate x = Check.of(text.toString());
            x.speak(0, 0, 0);
            due("by " + jurors, x.sum(0, false), jurors * (jurors + 1) / 2);
        }
    }

    private static void laws() {
        Check.sentence("the E of the first if that holds (one less than the other), else the last one",
            PleadEdgesTest::ifs);
        Check.sentence("ints of 32 bits that wrap", PleadEdgesTest::wraps);
        Check.sentence("/ rounded towards 0", PleadEdgesTest::towardsNought);
        Check.sentence("a LAW in which something that is looked at is divided by 0 is 0", PleadEdgesTest::byNought);
        Check.sentence("a VAR not told for a LAW is 0 in it.", PleadEdgesTest::varsNotTold);
        Check.sentence("LOT n of a SEED and a which: h is the SEED; for each of 65, which: h becomes (h and it, each bit of "
            + "which is in just one) times 1103515245 and 12345 more, then h and h moved 15 bits down (zeros come in), "
            + "likewise; the rest of h, moved 1 bit down likewise, by n (32 bits that wrap).", PleadEdgesTest::lots);
    }

    private static void ifs() {
        due("less", good("if 5<6 then 7 else 8"), 7);
        due("alike", good("if 6<6 then 7 else 8"), 8);
        due("more", good("if 7<6 then 7 else 8"), 8);
        due("below 0", good("if 0-1<0 then 7 else 8"), 7);
        due("far below 0", good("if 0-9<0-8 then 7 else 8"), 7);
        due("far apart", good("if 4096*16*4096*8<4096*16*4096*8-1 then 7 else 8"), 7);
        due("far apart, the other", good("if 4096*16*4096*8-1<4096*16*4096*8 then 7 else 8"), 8);
        due("the first of two", good("if 1<2 then 3 else if 1<2 then 4 else 5"), 3);
        due("the second", good("if 2<2 then 3 else if 1<2 then 4 else 5"), 4);
        due("none of two", good("if 2<2 then 3 else if 2<2 then 4 else 5"), 5);
        due("no if", good("5"), 5);
        due("Es", good("if skill*2-1<skill+6 then skill/2+1 else 9"), 4);
    }

    private static void wraps() {
        // 65536 * 32768 is 2^31.
        due("times", good("if 4096*16*4096*8<0 then 7 else 8"), 7);
        due("plus", good("if 4096*16*4096*4+4096*16*4096*4<0 then 7 else 8"), 7);
        due("minus", good("if 0<0-4096*16*4096*8-1 then 7 else 8"), 7);
        due("minus to 2^31-1", good("if 0-(4096*16*4096*8)<0 then 7 else 8"), 7);
        due("2^32 is 0", good("4096*16*4096*16+7"), 7);
        due("least by -1", good("if 4096*16*4096*8/(0-1)<0 then 7 else 8"), 7);
        // 9999^3 is -1027349969 of 32 bits, by 9999 -102745, by 9999 -10.
        due("thrice 9999", good("60+9999*9999*9999/9999/9999"), 50);
    }

    private static void towardsNought() {
        due("7/2", good("7/2"), 3);
        due("-7/2", good("50+(0-7)/2"), 47);
        due("7/-2", good("50+7/(0-2)"), 47);
        due("-7/-2", good("50+(0-7)/(0-2)"), 53);
        due("-1/2", good("50+(0-1)/2"), 50);
        due("1/2", good("50+1/2"), 50);
        due("0/5", good("50+0/5"), 50);
        due("from the left", good("90/4/3*2"), 14);
    }

    private static void byNought() {
        due("1/0", good("50+1/0"), 0);
        due("0/0", good("50+0/0"), 0);
        due("times 0", good("50+0*(1/0)"), 0);
        due("by a sum", good("50+1/(skill-6)"), 0);
        due("by a quotient", good("50+1/(1/2)"), 0);
        due("then looked at", good("if 1<2 then 1/0 else 50"), 0);
        due("then not looked at", good("if 2<2 then 1/0 else 50"), 50);
        due("last looked at", good("if 2<2 then 50 else 1/0"), 0);
        due("last not looked at", good("if 1<2 then 50 else 1/0"), 50);
        due("left of < looked at", good("if 1/0<2 then 50 else 60"), 0);
        due("right of < looked at", good("if 1<2/0 then 50 else 60"), 0);
        due("second if not looked at", good("if 1<2 then 50 else if 1/0<1 then 60 else 70"), 50);
        due("second if looked at", good("if 2<2 then 50 else if 1/0<1 then 60 else 70"), 0);
        WorseSenate x = Check.of("man a 0 6 0 50;motion m 0 0 0;juror j 0;fines=40+1/0;marks=40+1/0;argues=40+1/0;");
        x.speak(0, 0, 0);
        due("ARGUES", x.argues(0, 0, false), 0);
        due("MARKS, held to 1", x.mark(0, 0, false), 1);
        due("FINES", x.fine(0, false), 0);
        // The next law that is asked is not touched by it.
        x = Check.of("man a 0 6 0 50;motion m 0 0 0;juror j 0;argues=9+9*(9+9*(9/0));marks=7;fines=good*2;");
        x.speak(0, 0, 0);
        due("MARKS then", x.mark(0, 0, false), 7);
        due("FINES then", x.fine(0, false), 14);
    }

    private static void varsNotTold() {
        // Praised, and before a juror who leans to the side: neither counts for FINES, nor good and lean for ARGUES.
        WorseSenate x = Check.of("man a 0 6 0 99;motion m 0 0 0;juror j 1;argues=3+good*9+lean*9;marks=good+lean;"
            + "fines=5+praise*9+lean*9;");
        x.speak(0, 0, 0);
        x.praise(0);
        due("mark", x.mark(0, 0, false), 4);
        due("ARGUES", x.argues(0, 0, false), 3);
        due("FINES", x.fine(0, false), 5);
        due("ARGUES again", x.argues(0, 0, false), 3);
        x.session(0);
        due("paid", x.man(0, 3), 94);
        due("kept", x.man(0, 7), 3);
    }

    /** LOT 10 by a seed: of men 0 .. 6, on days 0 .. 4; reckoned apart from the class. */
    private static final String[][] LOTS = {
        {"0", "9891078", "4902534", "1410416", "4523987", "9749767"},
        {"1", "4109265", "3474350", "9707814", "6694584", "0546703"},
        {"7", "0952888", "5804533", "0133946", "7840293", "6747760"},
        {"4321", "3874872", "2986965", "9216178", "0147089", "4896704"},
        {"9999", "5925743", "5898494", "5521449", "8418872", "4548961"}};

    private static WorseSenate seven(String seed, int slip) {
        StringBuilder text = new StringBuilder("seed " + seed + ";juror j 0;");
        for (int man = 0; man < 7; man++) {
            text.append("man m").append((char) ('a' + man)).append(" 0 1 ").append(slip).append(" 0;");
        }
        for (int motion = 0; motion < 5; motion++) {
            text.append("motion n").append((char) ('a' + motion)).append(" 0 0 0;");
        }
        return Check.of(text.toString());
    }

    private static void lots() {
        for (String[] row : LOTS) {
            for (int slip = 1; slip <= 9; slip++) {
                WorseSenate x = seven(row[0], slip);
                int[] slips = new int[7];
                for (int day = 0; day < 5; day++) {
                    for (int man = 0; man < 7; man++) {
                        x.speak(man, day, 0);
                    }
                    x.session(day);
                    for (int man = 0; man < 7; man++) {
                        slips[man] += row[1 + day].charAt(man) - '0' < slip ? 1 : 0;
                        due("seed " + row[0] + ", slip " + slip + ", day " + day, x.man(man, 9), slips[man]);
                    }
                }
            }
        }
    }

    private static void sessions() {
        Check.sentence("A SESSION of a MOTION (once; if somebody speaks on it, and there are JURORS)",
            PleadEdgesTest::onceIfSomebody);
        Check.sentence("all who are to speak on it, MAN by MAN", PleadEdgesTest::allWhoSpeak);
        Check.sentence("sense slips out if LOT 10 of the SEED and 16 * the day and his number is less than SLIP.",
            PleadEdgesTest::lessThanSlip);
        Check.sentence("It FALLS TO the SIDE for which SPEECHES had the greatest SUM in the mean (of alike ones the "
            + "first).", PleadEdgesTest::greatestMean);
        Check.sentence("good: the SUM by how many JURORS, rounded down", PleadEdgesTest::fineGood);
        Check.sentence("skill, manner, slip, day, sworn, which as for ARGUES", PleadEdgesTest::varsOfFines);
        Check.sentence("held to 0 .. 99; no more than he has", PleadEdgesTest::fineIsHeld);
        Check.sentence("SPEECHES are kept (each MAN's last one), praise of them is gone, they speak on nothing then; it "
            + "is the next day.", PleadEdgesTest::nextDay);
    }

    private static final String TWO = "man a 0 6 0 20;man b 1 4 0 20;motion m 1 2 3;motion n 4 5 6;";

    private static void onceIfSomebody() {
        WorseSenate x = Check.of(TWO + "juror j 0;");
        due("nobody speaks on it", x.session(0), -2);
        x.speak(0, 1, 0);
        due("nobody speaks on this one", x.session(0), -2);
        x.speak(1, 0, 0);
        due("somebody", x.session(0), 0);
        due("once", x.session(0), -2);
        due("the other one", x.session(1), 1);
        due("that once", x.session(1), -2);
        x = Check.of(TWO);
        x.speak(0, 0, 0);
        due("no jurors", x.session(0), -2);
    }

    private static void allWhoSpeak() {
        WorseSenate x = Check.of("man a 0 6 10 20;man b 1 4 10 20;man c 0 3 10 20;motion m 1 2 3;motion n 4 5 6;juror j 0;"
            + "fines=2;");
        x.speak(0, 0, 0);
        x.speak(1, 1, 0);
        x.praise(1);
        x.praise(2);
        due("falls to", x.session(0), 1);
        due("who spoke slipped", x.man(0, 9), 1);
        due("who spoke paid", x.man(0, 3), 18);
        for (int man = 1; man < 3; man++) {
            due("others did not slip", x.man(man, 9), 0);
            due("others did not pay", x.man(man, 3), 20);
            due("others are praised yet", x.man(man, 6), 1);
            due("nothing is kept of others", x.man(man, 7), -2);
        }
        due("who is to speak on another is so yet", x.man(1, 4), 1);
        // The first and the last of seven.
        x = seven("0", 10);
        x.speak(0, 4, 0);
        x.speak(6, 4, 0);
        x.session(4);
        due("kept", x.count(13), 65);
        due("slipped", x.count(14), 2);
    }

    private static void lessThanSlip() {
        // LOTs of men 0 .. 6 by seed 0 on day 0: 9 8 9 1 0 7 8.
        int[] slippers = {0, 16, 24, 24, 24, 24, 24, 24, 56, 122, 127};
        for (int slip = 0; slip <= 10; slip++) {
            WorseSenate x = seven("0", slip);
            for (int man = 0; man < 7; man++) {
                x.speak(man, 0, 0);
            }
            x.session(0);
            int who = 0;
            for (int man = 0; man < 7; man++) {
                who |= x.man(man, 9) << man;
            }
            due("slip " + slip, who, slippers[slip]);
        }
        // By the day of the session, whichever motion it is: man 0 has 9 on day 0, 4 on day 1, 1 on day 2.
        WorseSenate x = seven("0", 2);
        int[] slips = {0, 0, 1};
        for (int day = 0; day < 3; day++) {
            x.speak(0, 4 - day, 0);
            x.session(4 - day);
            due("day " + day, x.man(0, 9), slips[day]);
        }
    }

    private static int fallsTo(String men) {
        WorseSenate x = Check.of("motion m 0 0 0;juror j 0;" + men);
        for (int man = 0; man < x.count(1); man++) {
            x.speak(man, 0, 0);
        }
        int now = x.now(0, -1);
        int side = x.session(0);
        due("as now", now, side);
        due("as is kept", x.motion(0, 0), side);
        return side;
    }

    private static void greatestMean() {
        due("one alone", fallsTo("man a 0 1 0 0;"), 1);
        due("more", fallsTo("man a 0 6 0 0;man b 1 5 0 0;"), 1);
        due("alike", fallsTo("man a 0 5 0 0;man b 1 5 0 0;"), 0);
        due("one less", fallsTo("man a 0 5 0 0;man b 1 4 0 0;"), 1);
        due("alike of three", fallsTo("sides 3;man a 0 5 0 0;man b 1 5 0 0;man c 2 5 0 0;"), 0);
        due("alike, 1 and 2", fallsTo("sides 3;man a 0 5 0 0;man b 1 5 0 0;man c 2 4 0 0;"), 1);
        due("alike, 2 and 0", fallsTo("sides 3;man a 0 4 0 0;man b 1 5 0 0;man c 2 5 0 0;"), 0);
        due("2", fallsTo("sides 3;man a 0 4 0 0;man b 1 6 0 0;man c 2 5 0 0;"), 2);
        // In the mean: 6 and 4 are 5.
        due("mean alike", fallsTo("man a 0 6 0 0;man b 0 4 0 0;man c 1 5 0 0;"), 0);
        due("mean more", fallsTo("man a 0 6 0 0;man b 0 5 0 0;man c 1 5 0 0;"), 1);
        due("mean, not together", fallsTo("man a 0 4 0 0;man b 0 4 0 0;man c 0 4 0 0;man d 1 5 0 0;"), 0);
        // 14 by 3 and 9 by 2: by a sixth more.
        due("by a sixth", fallsTo("man a 0 5 0 0;man b 0 5 0 0;man c 0 4 0 0;man d 1 5 0 0;man e 1 4 0 0;"), 1);
        due("six and one", fallsTo("man a 0 5 0 0;man b 0 5 0 0;man c 0 5 0 0;man d 0 5 0 0;man e 0 5 0 0;"
            + "man f 0 6 0 0;man g 1 5 0 0;"), 1);
        due("a side that nobody speaks for", fallsTo("sides 3;man a 1 1 0 0;"), 2);
    }

    private static void fineGood() {
        // Marks 6, 6, 5 are 17: by three 5, by the first two 6.
        String text = "man a 0 6 0 99;motion m 0 0 0;juror p 0;juror q 0;marks=if which<2 then 6 else 5;fines=good;";
        WorseSenate x = Check.of(text + "juror r 0;");
        x.speak(0, 0, 0);
        due("17 by 3", x.fine(0, false), 5);
        x.session(0);
        due("paid", x.man(0, 3), 94);
        x = Check.of(text);
        x.speak(0, 0, 0);
        due("12 by 2", x.fine(0, false), 6);
        // The SUM in the mean, not GOOD: a mumble has 4, whatever it is.
        x.speak(0, 0, 1);
        due("a mumble", x.fine(0, true), 4);
    }

    private static void varsOfFines() {
        String[] vars = {"skill", "manner", "praise", "day", "slip", "sworn", "good", "lean", "which"};
        int[] plain = {7, 3, 0, 1, 0, 0, 4, 0, 1};
        int[] slippedSworn = {7, 3, 0, 1, 1, 1, 4, 0, 1};
        int[] argues = {7, 3, 2, 1, 0, 0, 0, 0, 1};
        for (int i = 0; i < vars.length; i++) {
            // Marks of 5 and 4: by two jurors 4.
            WorseSenate x = rich("fines=" + vars[i] + "*10;marks=5-which;argues=" + vars[i] + "*9;");
            due(vars[i], x.fine(1, false), 10 * plain[i]);
            due(vars[i] + " of ARGUES", x.argues(1, 3, false), 9 * argues[i]);
            x.swear(1, 1);
            due(vars[i] + ", slipped, sworn", x.fine(1, true), 10 * slippedSworn[i]);
            x.session(1);
            due(vars[i] + " paid, sworn", x.man(1, 3), 999 - (vars[i].equals("slip") ? 0 : 10 * slippedSworn[i]));
        }
    }

    private static int paid(String law, int coins) {
        WorseSenate x = Check.of("man a 0 6 0 " + coins + ";motion m 0 0 0;juror p 0;fines=" + law + ";");
        x.speak(0, 0, 0);
        int fine = x.fine(0, false);
        x.session(0);
        due("coins left by " + law, x.man(0, 3), coins - fine);
        due("all paid by " + law, x.count(7), fine);
        return fine;
    }

    private static void fineIsHeld() {
        due("-1", paid("0-1", 500), 0);
        due("0", paid("0", 500), 0);
        due("1", paid("1", 500), 1);
        due("99", paid("99", 500), 99);
        due("100", paid("100", 500), 99);
        due("greatest", paid("4096*16*4096*8-1", 500), 99);
        due("least", paid("4096*16*4096*8", 500), 0);
        due("he has nothing", paid("7", 0), 0);
        due("one less", paid("7", 6), 6);
        due("just so many", paid("7", 7), 7);
        due("one more", paid("7", 8), 7);
        due("held, no more than he has", paid("100", 98), 98);
    }

    private static void nextDay() {
        WorseSenate x = Check.of(TWO + "juror j 0;motion o 0 0 0;argues=skill+praise;");
        due("day 0", x.count(4), 0);
        due("none is kept", x.count(13), 0);
        x.speak(0, 0, 3);
        x.praise(0);
        x.session(0);
        due("day 1", x.count(4), 1);
        due("kept", x.man(0, 7), 7);
        due("not of b", x.man(1, 7), -2);
        due("praise is gone", x.man(0, 6), 0);
        due("on nothing", x.man(0, 4), -2);
        due("in no manner", x.man(0, 5), -2);
        due("nobody is to speak on it", x.motion(0, 1), 0);
        x.speak(0, 1, 0);
        due("kept while he is to speak again", x.man(0, 7), 7);
        x.session(1);
        due("his last one", x.man(0, 7), 6);
        due("day 2", x.count(4), 2);
        x.speak(1, 2, 0);
        x.session(2);
        due("of both", x.count(13), 3);
        due("day 3", x.count(4), 3);
        due("a's yet", x.man(0, 7), 6);
    }

    private static void byHand() {
        Check.sentence("a MAN is to speak on a MOTION yet to fall, in a MANNER (one MOTION at a time)",
            PleadEdgesTest::oneAtATime);
        Check.sentence("he is PRAISED (9 times at most)", PleadEdgesTest::nineTimes);
        Check.sentence("if he is to speak, he is to READ the SPEECH kept of another one then, who gets a coin for each of "
            + "its GOOD, if he has so many", PleadEdgesTest::coinForEach);
        Check.sentence("(in place of what he was to READ ahead; who is silent again reads nothing)",
            PleadEdgesTest::inPlaceOf);
        Check.sentence("he SWEARS over to another SIDE (he left his own; once).", PleadEdgesTest::swearsOnce);
    }

    private static void oneAtATime() {
        WorseSenate x = Check.of(TWO + "juror j 0;");
        due("speak", x.speak(0, 0, 2), true);
        due("on another", x.speak(0, 1, 2), true);
        due("not on the first", x.motion(0, 1), 0);
        due("on this", x.motion(1, 1), 1);
        due("two on one", x.speak(1, 1, 0), true);
        due("both", x.motion(1, 1), 3);
        x.session(1);
        due("it has fallen", x.speak(0, 1, 0), false);
        due("the other has not", x.speak(0, 0, 0), true);
    }

    private static void nineTimes() {
        WorseSenate x = Check.of(TWO + "juror j 0;");
        for (int i = 1; i <= 9; i++) {
            due("praise", x.praise(0), i);
        }
        due("a tenth", x.praise(0), -2);
        due("nine", x.man(0, 6), 9);
        due("another one", x.praise(1), 1);
        x.undo();
        x.undo();
        due("the ninth again", x.praise(0), 9);
        due("no more", x.praise(0), -2);
        x.speak(0, 0, 0);
        x.session(0);
        due("from 1 on again", x.praise(0), 1);
    }

    private static void coinForEach() {
        for (int coins = 5; coins <= 7; coins++) {
            WorseSenate x = Check.of("man a 0 6 0 3;man b 1 4 0 " + coins + ";motion m 1 2 3;motion n 4 5 6;juror j 0;");
            x.speak(0, 0, 0);
            x.session(0);
            x.speak(1, 1, 0);
            due("with " + coins, x.reads(1, 0), coins < 6 ? -2 : coins - 6);
            due("he has", x.man(1, 3), coins < 6 ? coins : coins - 6);
            due("the other has", x.man(0, 3), coins < 6 ? 3 : 9);
            due("all coins stay", x.count(12), 3 + coins);
            due("no fine", x.count(7), 0);
            due("he reads", x.man(1, 8), coins < 6 ? -2 : 0);
        }
        // A speech of no GOOD costs nothing; the man who is read may be to speak or not.
        WorseSenate x = Check.of("man a 0 6 0 0;man b 1 4 0 0;motion m 1 2 3;motion n 4 5 6;juror j 0;"
            + "argues=if which<1 then 0 else 99;");
        x.speak(0, 0, 0);
        x.session(0);
        due("not to speak", x.reads(1, 0), -2);
        x.speak(1, 1, 0);
        x.speak(0, 1, 0);
        due("for nothing", x.reads(1, 0), 0);
        due("its good", x.sum(1, false), 1);
        // The one of 99 coins.
        x = Check.of("man a 0 6 0 999;man b 1 4 0 99;motion m 1 2 3;motion n 4 5 6;juror j 0;argues=99;");
        x.speak(0, 0, 0);
        x.session(0);
        x.speak(1, 1, 0);
        due("99", x.reads(1, 0), 0);
        due("more than a text may tell", x.man(0, 3), 1098);
    }

    private static void inPlaceOf() {
        WorseSenate x = Check.of("man a 0 6 0 20;man b 1 4 0 20;man c 1 3 0 20;motion m 1 2 3;motion n 4 5 6;"
            + "motion o 0 0 0;juror j 0;");
        x.speak(0, 0, 0);
        x.speak(1, 0, 0);
        x.session(0);
        x.speak(2, 1, 0);
        due("a's", x.reads(2, 0), 14);
        due("b's", x.reads(2, 1), 10);
        due("whom", x.man(2, 8), 1);
        due("its sum", x.sum(2, false), 4);
        due("a keeps the coins", x.man(0, 3), 26);
        due("a's again", x.reads(2, 0), 4);
        due("a is paid again", x.man(0, 3), 32);
        due("silent", x.speak(2, -1, 0), true);
        due("reads nothing", x.man(2, 8), -2);
        due("coins are gone", x.man(2, 3), 4);
        x.speak(2, 1, 0);
        due("reads nothing then", x.man(2, 8), -2);
        due("his own", x.sum(2, false), 3);
        due("b's for the last coins", x.reads(2, 1), 0);
        due("on another motion he reads on", x.speak(2, 2, 3), true);
        due("whom", x.man(2, 8), 1);
        x.session(2);
        due("a session ends it", x.man(2, 8), -2);
    }

    private static void swearsOnce() {
        WorseSenate x = Check.of("sides 3;man a 0 6 0 0;man b 1 1 0 0;motion m 0 0 0;juror j 0;");
        due("his own", x.swear(0, 0), false);
        due("to another", x.swear(0, 2), true);
        due("to a third", x.swear(0, 1), false);
        due("back", x.swear(0, 0), false);
        due("to where he is", x.swear(0, 2), false);
        due("of", x.man(0, 0), 2);
        due("another man", x.swear(1, 0), true);
        x.speak(0, 0, 0);
        x.session(0);
        due("nor the next day", x.swear(0, 1), false);
        x = Check.of("man a 1 6 0 0;");
        due("the first of two", x.swear(0, 0), true);
        x.undo();
        due("undone, he may again", x.swear(0, 0), true);
    }

    private static void looks() {
        Check.sentence("Of a MAN: what 0 SIDE, 1: 1 SWORN, else 0, 2 the SIDE he PLEADS FOR, 3 COINS, 4 the MOTION he is "
            + "to speak on (-2: none), 5 MANNER (-2 likewise), 6 praise, 7 GOOD of his SPEECH kept (-2: none), 8 whom he "
            + "READS (-2: nobody), 9 how often he slipped. NONE for others.", PleadEdgesTest::ofAMan);
        Check.sentence("Of a MOTION: what 0 to which SIDE it fell (-2: yet to fall), 1 who is to speak on it (bits), 2, 3, "
            + "4 WORTH to SIDES 0, 1, 2. NONE for others.", PleadEdgesTest::ofAMotion);
        Check.sentence("GOOD of a SPEECH of a MAN in a MANNER now, slipped or not (what he READS not looked at); NONE: no "
            + "such ones.", PleadEdgesTest::noSuchArgues);
        Check.sentence("-2: he is to speak on nothing; NONE: no such ones.", PleadEdgesTest::noSuchMark);
        Check.sentence("-2 likewise; NONE: no such one.", PleadEdgesTest::noSuchSum);
    }

    private static void ofAMan() {
        WorseSenate x = Check.of(TWO + "juror j 0;fines=1;");
        int[] at0 = {0, 0, 1, 20, -2, -2, 0, -2, -2, 0};
        for (int what = 0; what < 10; what++) {
            due("new, what " + what, x.man(0, what), at0[what]);
        }
        x.speak(0, 0, 0);
        due("motion 0 is none of -2", x.man(0, 4), 0);
        due("nor is manner 0", x.man(0, 5), 0);
        x.session(0);
        x.speak(1, 1, 0);
        x.reads(1, 0);
        due("reads man 0", x.man(1, 8), 0);
        due("kept", x.man(0, 7), 6);
        for (int man : NO_MEN) {
            for (int what = 0; what < 10; what++) {
                due("man " + man, x.man(man, what), -1);
            }
        }
        for (int what : new int[] {-2, -1, 10, 11, BIG, LOW}) {
            due("what " + what, x.man(0, what), -1);
        }
        x = Check.of(TWO + "juror j 0;argues=0;");
        x.speak(1, 1, 0);
        x.session(1);
        due("a speech of no GOOD is kept", x.man(1, 7), 0);
        x.swear(0, 1);
        due("sworn", x.man(0, 1), 1);
        due("of", x.man(0, 0), 1);
        due("not sworn", x.man(1, 1), 0);
    }

    private static void ofAMotion() {
        WorseSenate x = Check.of(TWO + "juror j 0;");
        due("yet to fall", x.motion(0, 0), -2);
        due("nobody", x.motion(0, 1), 0);
        x.speak(1, 0, 0);
        due("bits", x.motion(0, 1), 2);
        x.session(0);
        due("fell to 0", x.motion(0, 0), 0);
        due("the other one has not", x.motion(1, 0), -2);
        for (int side = 0; side < 3; side++) {
            due("worth of m", x.motion(0, 2 + side), 1 + side);
            due("worth of n", x.motion(1, 2 + side), 4 + side);
        }
        for (int motion : new int[] {-2, -1, 2, 5, BIG, LOW}) {
            for (int what = 0; what < 5; what++) {
                due("motion " + motion, x.motion(motion, what), -1);
            }
        }
        for (int what : new int[] {-2, -1, 5, 6, BIG, LOW}) {
            due("what " + what, x.motion(0, what), -1);
        }
        x = seven("0", 0);
        for (int man = 0; man < 7; man++) {
            x.speak(man, 4, 0);
        }
        due("all seven", x.motion(4, 1), 127);
    }

    private static void noSuchArgues() {
        WorseSenate x = Check.of(TWO + "juror j 0;argues=skill+slip;");
        x.speak(1, 0, 0);
        x.session(0);
        x.speak(0, 1, 0);
        due("reads", x.reads(0, 1), 16);
        due("sum of what he reads", x.sum(0, false), 4);
        due("not looked at", x.argues(0, 0, false), 6);
        due("not looked at, slipped", x.argues(0, 3, true), 7);
        due("a silent man", x.argues(1, 0, false), 4);
        for (int man : NO_MEN) {
            due("man " + man, x.argues(man, 0, false), -1);
        }
        for (int manner : new int[] {-2, -1, 4, BIG, LOW}) {
            due("manner " + manner, x.argues(0, manner, true), -1);
        }
    }

    private static void noSuchMark() {
        WorseSenate x = Check.of(TWO + "juror j 0;juror k 0;");
        due("on nothing", x.mark(0, 0, false), -2);
        due("on nothing, slipped", x.mark(1, 1, true), -2);
        x.speak(0, 0, 0);
        due("mark", x.mark(1, 0, false), 6);
        due("b is on nothing", x.mark(1, 1, false), -2);
        for (int man : NO_MEN) {
            due("man " + man, x.mark(0, man, false), -1);
        }
        for (int juror : new int[] {-2, -1, 2, 8, BIG, LOW}) {
            due("juror " + juror, x.mark(juror, 0, false), -1);
            due("juror " + juror + ", on nothing", x.mark(juror, 1, false), -1);
        }
        x.session(0);
        due("he spoke", x.mark(0, 0, false), -2);
    }

    private static void noSuchSum() {
        WorseSenate x = Check.of(TWO + "juror j 0;");
        due("on nothing", x.sum(0, false), -2);
        due("on nothing, slipped", x.sum(1, true), -2);
        x.speak(0, 0, 0);
        due("sum", x.sum(0, false), 6);
        for (int man : NO_MEN) {
            due("man " + man, x.sum(man, false), -1);
        }
        x.speak(0, -1, 0);
        due("silent again", x.sum(0, false), -2);
    }

    private static void deeds() {
        Check.sentence("(motion NONE: silent again, whatever MANNER): true", PleadEdgesTest::whateverManner);
        Check.sentence("false, and nothing happens: it is so, it has fallen, no such ones.", PleadEdgesTest::noSpeak);
        Check.sentence("PRAISED: how often now; -2, and nothing happens: 9 times; NONE: no such one.",
            PleadEdgesTest::noPraise);
        Check.sentence("READS: COINS left; -2, and nothing happens: he is to speak on nothing, no SPEECH is kept, he READS "
            + "that of this one, he has not so many; NONE: no such ones, one and the same.", PleadEdgesTest::noReads);
        Check.sentence("SWEARS over: true; false, and nothing happens: SWORN, it is his own, no such ones.",
            PleadEdgesTest::noOath);
        Check.sentence("SESSION: to which SIDE it FALLS; -2, and nothing happens: it has fallen, nobody speaks on it, no "
            + "JURORS; NONE: no such one.", PleadEdgesTest::noSession);
        Check.sentence("The last thing done (speak, praise, reads, swear, session) is undone: true",
            PleadEdgesTest::undone);
        Check.sentence("false: there is none (the last 40 can be).", PleadEdgesTest::lastForty);
    }

    private static void whateverManner() {
        WorseSenate x = Check.of(TWO + "juror j 0;");
        for (int manner : new int[] {0, 1, 3, 4, -1, BIG, LOW}) {
            due("speak", x.speak(0, 1, 2), true);
            due("silent again, " + manner, x.speak(0, -1, manner), true);
            due("on nothing", x.man(0, 4), -2);
            due("no manner", x.man(0, 5), -2);
        }
    }

    private static void noSpeak() {
        WorseSenate x = Check.of(TWO + "juror j 0;");
        x.speak(1, 0, 0);
        x.session(0);
        x.speak(0, 1, 2);
        int[] before = Check.all(x);
        due("it is so", x.speak(0, 1, 2), false);
        due("it is so: silent", x.speak(1, -1, 0), false);
        due("it is so: silent, in no manner", x.speak(1, -1, 9), false);
        due("it has fallen", x.speak(0, 0, 2), false);
        due("it has fallen, another man", x.speak(1, 0, 0), false);
        for (int man : NO_MEN) {
            due("man " + man, x.speak(man, 1, 0), false);
            due("man " + man + " silent", x.speak(man, -1, 0), false);
        }
        for (int motion : new int[] {-2, 2, 5, BIG, LOW}) {
            due("motion " + motion, x.speak(0, motion, 0), false);
        }
        for (int manner : new int[] {-2, -1, 4, BIG, LOW}) {
            due("manner " + manner, x.speak(0, 1, manner), false);
        }
        Check.same("speak", x, before);
    }

    private static void noPraise() {
        WorseSenate x = Check.of(TWO + "juror j 0;");
        for (int i = 1; i <= 9; i++) {
            due("how often now", x.praise(1), i);
        }
        int[] before = Check.all(x);
        due("9 times", x.praise(1), -2);
        due("9 times, again", x.praise(1), -2);
        for (int man : NO_MEN) {
            due("man " + man, x.praise(man), -1);
        }
        Check.same("praise", x, before);
    }

    private static void noReads() {
        WorseSenate x = Check.of("man a 0 6 0 7;man b 1 4 0 20;man c 1 4 0 20;motion m 0 0 0;motion n 0 0 0;juror j 0;");
        x.speak(1, 0, 0);
        x.session(0);
        int[] before = Check.all(x);
        due("he is to speak on nothing", x.reads(0, 1), -2);
        Check.same("reads on nothing", x, before);
        x.speak(0, 1, 0);
        x.speak(1, 1, 0);
        before = Check.all(x);
        due("no SPEECH is kept", x.reads(1, 0), -2);
        due("no SPEECH is kept of c", x.reads(0, 2), -2);
        Check.same("reads none", x, before);
        due("COINS left", x.reads(0, 1), 3);
        before = Check.all(x);
        due("he READS that of this one", x.reads(0, 1), -2);
        for (int man : new int[] {-2, -1, 3, 7, BIG, LOW}) {
            due("man " + man, x.reads(man, 1), -1);
            due("other " + man, x.reads(0, man), -1);
        }
        due("one and the same", x.reads(1, 1), -1);
        due("one and the same, of whom none is kept", x.reads(0, 0), -1);
        due("one and the same, silent", x.reads(2, 2), -1);
        due("no such one", x.reads(3, 3), -1);
        Check.same("reads", x, before);
        x.speak(0, -1, 0);
        x.speak(0, 1, 0);
        before = Check.all(x);
        due("he has not so many", x.reads(0, 1), -2);
        Check.same("reads with too few coins", x, before);
    }

    private static void noOath() {
        WorseSenate x = Check.of("sides 3;man a 0 6 0 7;man b 1 4 0 20;");
        due("swears", x.swear(0, 1), true);
        int[] before = Check.all(x);
        for (int side = 0; side < 3; side++) {
            due("SWORN", x.swear(0, side), false);
        }
        due("his own", x.swear(1, 1), false);
        for (int side : new int[] {-2, -1, 3, BIG, LOW}) {
            due("side " + side, x.swear(1, side), false);
        }
        for (int man : NO_MEN) {
            due("man " + man, x.swear(man, 0), false);
        }
        Check.same("swear", x, before);
        x = Check.of("man a 0 6 0 7;");
        before = Check.all(x);
        due("a side that there is not", x.swear(0, 2), false);
        Check.same("swear to it", x, before);
    }

    private static void noSession() {
        WorseSenate x = Check.of(TWO + "juror j 0;");
        x.speak(0, 0, 0);
        due("falls to", x.session(0), 1);
        x.speak(1, 1, 0);
        x.speak(1, -1, 0);
        x.praise(1);
        int[] before = Check.all(x);
        due("it has fallen", x.session(0), -2);
        due("nobody speaks on it", x.session(1), -2);
        for (int motion : new int[] {-2, -1, 2, 5, BIG, LOW}) {
            due("motion " + motion, x.session(motion), -1);
        }
        Check.same("session", x, before);
        x = Check.of(TWO);
        x.speak(0, 0, 0);
        x.praise(0);
        before = Check.all(x);
        due("no JURORS", x.session(0), -2);
        due("no such one", x.session(2), -1);
        Check.same("session without jurors", x, before);
    }

    private static void deed(WorseSenate x, int deed) {
        switch (deed) {
            case 0: due("speak", x.speak(0, 0, 2), true);
                break;
            case 1: due("praise", x.praise(0), 1);
                break;
            case 2: due("speak too", x.speak(2, 0, 0), true);
                break;
            case 3: due("session", x.session(0), 1);
                break;
            case 4: due("speak again", x.speak(1, 1, 0), true);
                break;
            case 5: due("reads", x.reads(1, 0), 13);
                break;
            case 6: due("swear", x.swear(1, 0), true);
                break;
            default: due("silent", x.speak(1, -1, 0), true);
        }
    }

    private static void undone() {
        for (int last = 0; last <= 7; last++) {
            WorseSenate x = Check.of(TWO + "juror j 0;argues=skill+slip+praise;fines=3;man c 1 4 10 9;");
            for (int deed = 0; deed < last; deed++) {
                deed(x, deed);
            }
            int[] before = Check.all(x);
            deed(x, last);
            due("things", x.count(9), last + 1);
            due("undo " + last, x.undo(), true);
            Check.same("undo " + last, x, before);
            deed(x, last);
            for (int deed = last; deed >= 0; deed--) {
                due("undo all", x.undo(), true);
            }
            due("none", x.undo(), false);
            due("day", x.count(4), 0);
            due("coins", x.count(12), 49);
        }
        WorseSenate x = Check.of(TWO + "juror j 0;");
        // An old speech that was read is read again when silence is undone.
        x.speak(0, 0, 0);
        x.session(0);
        x.speak(1, 1, 0);
        x.reads(1, 0);
        x.speak(1, -1, 0);
        x.undo();
        due("read again", x.sum(1, false), 6);
    }

    private static void lastForty() {
        WorseSenate x = Check.of(TWO + "juror j 0;");
        due("none", x.undo(), false);
        for (int things = 39; things <= 41; things++) {
            x = Check.of(TWO + "juror j 0;");
            for (int i = 0; i < things; i++) {
                x.speak(0, i % 2, i % 4);
            }
            int most = Math.min(40, things);
            due("of " + things, x.count(9), most);
            for (int i = 0; i < most; i++) {
                due("undo", x.undo(), true);
            }
            due("no more of " + things, x.undo(), false);
            due("as it was ahead of them", x.man(0, 4), things == 41 ? 0 : -2);
        }
        // Far beyond 40, and 40 once more after some were undone.
        x = Check.of(TWO + "juror j 0;");
        for (int i = 0; i < 100; i++) {
            x.speak(0, i % 2, i % 4);
        }
        for (int i = 0; i < 30; i++) {
            x.undo();
        }
        due("ten are left", x.count(9), 10);
        due("it is as after 70", x.man(0, 5), 69 % 4);
        for (int i = 70; i < 105; i++) {
            x.speak(0, i % 2, i % 4);
        }
        due("forty again", x.count(9), 40);
        for (int i = 0; i < 40; i++) {
            due("undo", x.undo(), true);
        }
        due("no more", x.undo(), false);
        due("it is as after 65", x.man(0, 5), 64 % 4);
        due("undo is none of them", x.count(9), 0);
    }
}
