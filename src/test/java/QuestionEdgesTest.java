/** A test of its own for each sentence of part III, and of promises 17 to 30, that names an edge. */
public final class QuestionEdgesTest {
    private static final int BIG = Integer.MAX_VALUE;
    private static final int LOW = Integer.MIN_VALUE;
    private static final int[] NO_MOTIONS = {-2, -1, 2, 5, BIG, LOW};
    private static final int[] NO_SIDES = {-2, -1, 2, 3, BIG, LOW};
    private static final int[] NO_MEN = {-2, -1, 2, 7, BIG, LOW};
    /** Two men against each other, on two motions; the one juror gives each his skill. */
    private static final String TWO = "man a 0 6 0 20;man b 1 4 0 20;motion m 1 2 3;motion n 4 5 6;";
    private static final String JUROR = "juror j 0;";

    private QuestionEdgesTest() {
    }

    public static void main(String[] args) {
        Check.sentence("What would be (nothing happens).", QuestionEdgesTest::nothingHappens);
        Check.sentence("day, manner, slip, praise, sworn as for that", QuestionEdgesTest::onTheDayThatIs);
        nowAndLikely();
        changeAndChoose();
        mumbleAndJury();
        sayToHarsh();
        praiseToYear();
        Check.end("QuestionEdgesTest");
    }

    private static void due(String call, long got, long want) {
        Check.due(call, got, want);
    }

    private static void due(String call, boolean got, boolean want) {
        Check.due(call, got, want);
    }

    /** All men of the text speak plainly on motion 0. */
    private static WorseSenate on(String text) {
        WorseSenate x = Check.of(text);
        for (int man = 0; man < x.count(1); man++) {
            due("speak", x.speak(man, 0, 0), true);
        }
        return x;
    }

    private static String men(int n, String tail) {
        StringBuilder s = new StringBuilder();
        for (int i = 0; i < n; i++) {
            s.append("man ").append((char) ('a' + i)).append(tail);
        }
        return s.toString();
    }

    private static String jurors(int n, String tail) {
        StringBuilder s = new StringBuilder();
        for (int i = 0; i < n; i++) {
            s.append("juror j").append((char) ('a' + i)).append(tail);
        }
        return s.toString();
    }

    private static void nothingHappens() {
        WorseSenate x = Check.of("sides 3;man a 0 6 3 20;man b 1 4 5 20;man c 2 5 7 20;motion m 1 2 3;motion n 4 5 6;"
            + "motion o 7 8 9;juror j 0;juror k 1;argues=skill-manner+slip+praise;fines=good;seed 3;");
        x.speak(0, 0, 0);
        x.session(0);
        x.speak(0, 1, 2);
        x.speak(1, 1, 0);
        x.speak(2, 1, 3);
        x.praise(2);
        x.reads(1, 0);
        x.swear(0, 2);
        x.tell(0, 9);
        x.hold(1);
        int[] before = Check.all(x);
        int sum = x.sum(1, false);
        for (int side = -1; side < 3; side++) {
            x.now(1, side);
            x.likely(1, side, true);
            x.change(1, side, 1);
            x.choose(1, side, 0);
            x.chosen(1, side, false);
            x.praiseFor(1, side, 2);
            x.year(side, 20);
        }
        for (int man = 0; man < 3; man++) {
            x.say(man, 12);
            x.fine(man, true);
            x.old(man, 0);
            x.argues(man, 3, true);
            x.mark(0, man, true);
            x.sum(man, true);
            x.thinks(man, 1);
        }
        x.mumble(1, -1);
        x.jury(1, 1, 0);
        x.ahead(1);
        x.harsh(1, true);
        x.slipped(1, -1);
        Check.same("questions", x, before);
        due("what he reads", x.sum(1, false), sum);
        due("the last thing done", x.undo(), true);
        due("not sworn", x.man(0, 1), 0);
    }

    /** On day 0 a has 5 for 1, b 3 for 0; on day 1 a has 3, b 7: 4 as he mumbles, 2 as he jokes. */
    private static void onTheDayThatIs() {
        String speaking = "man a 0 5 0 0;man b 1 3 0 0;man c 0 1 0 0;motion m 9 9 0;motion n 0 0 0;";
        WorseSenate x = Check.of(speaking + "juror j 0;argues=skill+praise;"
            + "marks=if day<1 then good else 13-good*2-manner*2;");
        x.speak(0, 0, 0);
        x.speak(1, 0, 0);
        x.speak(2, 1, 0);
        // NOW, SUMS for 0 and 1, LIKELY 0, CHANGE to 0 and 1, AHEAD, how far, RESTS, PRAISE of b for 1.
        daily(x, 1, 3, 5, 0, 1, 0, 200, 200, 2, 0);
        due("choose for 1", x.choose(0, 1, 0), 0);
        due("chosen for 0", x.chosen(0, 0, false), 0);
        due("session", x.session(1), 1);
        daily(x, 0, 7, 3, 1, 0, 2, 400, 400, 4, 3);
        due("choose for 1", x.choose(0, 1, 0), 2);
        due("chosen for 0", x.chosen(0, 0, false), 1);
        x = Check.of(speaking + jurors(2, " 0;") + "marks=if day<1 then 5+which else 5-which;");
        x.speak(0, 0, 0);
        x.speak(1, 1, 0);
        due("harsh", x.harsh(0, false), 0);
        due("kind", x.harsh(0, true), 1);
        x.session(1);
        due("harsh", x.harsh(0, false), 1);
        due("kind", x.harsh(0, true), 0);
    }

    private static void daily(WorseSenate x, int... answers) {
        String day = "on day " + x.count(4) + ": ";
        int[] got = {x.now(0, -1), x.now(0, 0), x.now(0, 1), x.likely(0, 0, false), x.change(0, 0, 1), x.change(0, 1, 1),
            x.ahead(0), x.jury(0, 1, 1), x.mumble(0, -1), x.praiseFor(0, 1, 1)};
        for (int i = 0; i < got.length; i++) {
            due(day + i, got[i], answers[i]);
        }
    }

    private static void nowAndLikely() {
        Check.sentence("NOW: a SESSION of a MOTION, slips left out: to which SIDE it FALLS, the SUMS for a SIDE together.",
            QuestionEdgesTest::slipsLeftOut);
        Check.sentence("NOW: the SIDE (side NONE; -2: nobody speaks on it, no JURORS), or SUMS for a SIDE; NONE: no such "
            + "ones.", QuestionEdgesTest::noNow);
        Check.sentence("LIKELY: how likely it FALLS TO a SIDE, by SLIPS each by itself, as a fraction that cannot be "
            + "lessened (0 by 1).", QuestionEdgesTest::fractions);
        Check.sentence("LIKELY; NONE: no such ones.", QuestionEdgesTest::noLikely);
    }

    private static void slipsLeftOut() {
        // a, who always slips, has 4 for 1, with a slip 8; b has 5 for 0.
        WorseSenate x = on("man a 0 4 10 0;man b 1 5 0 0;motion m 0 0 0;juror j 0;argues=skill+slip*4;");
        due("the side", x.now(0, -1), 0);
        due("for 0", x.now(0, 0), 5);
        due("for 1", x.now(0, 1), 4);
        due("by slips", x.session(0), 1);
        x = on(men(7, " 0 9 0 0;") + jurors(8, " 0;") + "motion m 0 0 0;");
        due("the greatest sums", x.now(0, 1), 504);
        due("none for 0", x.now(0, 0), 0);
        due("to 1", x.now(0, -1), 1);
        x = on(men(7, " 0 1 0 0;") + "motion m 0 0 0;juror j 0;");
        due("the least of seven", x.now(0, 1), 7);
        // Together, though it falls by the mean: 3 and 3 for 1, 5 for 0.
        x = on("man a 0 3 0 0;man b 0 3 0 0;man c 1 5 0 0;motion m 0 0 0;juror j 0;");
        due("together", x.now(0, 1), 6);
        due("in the mean", x.now(0, -1), 0);
    }

    private static void noNow() {
        WorseSenate x = Check.of(TWO + JUROR);
        due("nobody speaks on it", x.now(0, -1), -2);
        due("nobody: sums", x.now(0, 0), 0);
        x.speak(0, 1, 0);
        due("on another", x.now(0, -1), -2);
        x.session(1);
        due("fallen", x.now(1, -1), -2);
        due("fallen: sums", x.now(1, 1), 0);
        for (int motion : NO_MOTIONS) {
            due("motion " + motion, x.now(motion, -1), -1);
            due("motion " + motion + ": sums", x.now(motion, 0), -1);
        }
        for (int side : new int[] {-2, 2, 3, BIG, LOW}) {
            due("side " + side, x.now(0, side), -1);
        }
        x = on(TWO);
        due("no jurors", x.now(0, -1), -2);
        due("no jurors: sums", x.now(0, 1), 0);
        due("a third side", Check.of("sides 3;motion m 0 0 0;").now(0, 2), 0);
    }

    private static void likely(String text, int side, int above, int below) {
        WorseSenate x = on(text);
        due("above of " + text, x.likely(0, side, false), above);
        due("below of " + text, x.likely(0, side, true), below);
    }

    private static void fractions() {
        // It falls to 1 if a slips (8) and b does not (5; slipped he has 9).
        int[][] slips = {{0, 0, 0, 1}, {10, 10, 0, 1}, {10, 0, 1, 1}, {3, 5, 3, 20}, {5, 5, 1, 4}, {1, 9, 1, 100},
            {10, 9, 1, 10}, {9, 0, 9, 10}, {9, 1, 81, 100}, {5, 0, 1, 2}, {4, 5, 1, 5}};
        for (int[] row : slips) {
            String text = "man a 0 4 " + row[0] + " 0;man b 1 5 " + row[1]
                + " 0;motion m 0 0 0;juror j 0;argues=skill+slip*4;";
            likely(text, 1, row[2], row[3]);
            likely(text, 0, row[3] - row[2], row[3]);
        }
        // Six have a SUM of 40, slipped 32; the seventh has 39, slipped 32: 9^7 and 10^6 - 1 of 10^7.
        String marks = "motion m 0 0 0;marks=if which*9<5-skill then 4 else 5-slip;" + jurors(8, " 0;");
        likely(men(6, " 0 5 1 0;") + "man g 1 4 0 0;" + marks, 1, 531441, 1000000);
        likely(men(6, " 0 5 1 0;") + "man g 1 4 1 0;" + marks, 1, 722871, 1250000);
        likely(men(6, " 0 5 1 0;") + "man g 1 4 1 0;" + marks, 0, 1250000 - 722871, 1250000);
        // A slip is 1 in a law, no more.
        likely("man a 0 4 3 0;man b 1 5 0 0;motion m 0 0 0;juror j 0;argues=if slip<2 then skill+slip*4 else 0;", 1, 3, 10);
        WorseSenate x = Check.of(TWO + JUROR);
        due("nobody: 0", x.likely(0, 0, false), 0);
        due("nobody: by 1", x.likely(0, 0, true), 1);
        x = on(TWO);
        due("no jurors: 0", x.likely(0, 1, false), 0);
        due("no jurors: by 1", x.likely(0, 1, true), 1);
        likely("sides 3;man a 0 4 5 0;motion m 0 0 0;juror j 0;", 2, 0, 1);
    }

    private static void noLikely() {
        WorseSenate x = on(TWO + JUROR);
        for (int motion : NO_MOTIONS) {
            due("motion " + motion, x.likely(motion, 0, false), -1);
            due("motion " + motion + " below", x.likely(motion, 0, true), -1);
        }
        for (int side : NO_SIDES) {
            due("side " + side, x.likely(0, side, false), -1);
            due("side " + side + " below", x.likely(0, side, true), -1);
        }
    }

    private static void changeAndChoose() {
        Check.sentence("CHANGE: the fewest MEN who speak on it and swear over now to the next SIDE in the ring (who are not "
            + "SWORN), so that it FALLS TO a SIDE without slips; of alike ones the least bits.",
            QuestionEdgesTest::fewest);
        Check.sentence("CHANGE: what 0 how many, 1 who (bits); -2: by none; NONE: no such ones.",
            QuestionEdgesTest::noChange);
        Check.sentence("CHOOSE for a SIDE: MANNERS of the MEN of that SIDE who speak on it, 3 at most (the first ones), so "
            + "that it is likeliest that it FALLS TO it", QuestionEdgesTest::threeAtMost);
        Check.sentence("of alike ones the first by the first MAN's MANNER, then the next one's (who READS, reads yet).",
            QuestionEdgesTest::firstManners);
        Check.sentence("CHOOSE: the MANNER of the i-th of them; NONE: no such ones, not so many.",
            QuestionEdgesTest::noChoose);
        Check.sentence("LIKELY with these; NONE: no such ones.", QuestionEdgesTest::noChosen);
    }

    private static void change(String call, WorseSenate x, int side, int who) {
        due(call + ": how many", x.change(0, side, 0), who < 0 ? who : Integer.bitCount(who));
        due(call + ": who", x.change(0, side, 1), who);
    }

    private static void fewest() {
        WorseSenate x = on(TWO + JUROR);
        change("it is so", x, 1, 0);
        // a over: both plead for 0, none for 1.
        change("one side alone then", x, 0, 1);
        // For 1: 1, 1 and 6, for 0: 7. a and b over leave 6 to 3, but d alone over is fewer.
        x = on("man a 0 1 0 0;man b 0 1 0 0;man c 0 6 0 0;man d 1 7 0 0;motion m 0 0 0;juror j 0;");
        change("fewer ahead of less bits", x, 1, 8);
        due("d sworn over by hand", x.swear(3, 0), true);
        due("falls to 1", x.now(0, -1), 1);
        x.undo();
        x.swear(0, 1);
        x.swear(1, 1);
        due("two by hand do so too", x.now(0, -1), 1);
        // Each as he argues himself: a over has 9 to 6 and 2.
        x = on("man a 0 9 0 0;man b 0 6 0 0;man c 0 2 0 0;motion m 0 0 0;juror j 0;");
        change("the first one over", x, 0, 1);
        // Alike ones: the least bits, of the men who speak on it.
        x = Check.of("sides 3;man z 0 9 0 0;man a 0 5 0 0;man b 0 5 0 0;motion m 0 0 0;motion n 0 0 0;juror j 0;");
        x.speak(1, 0, 0);
        x.speak(2, 0, 0);
        x.speak(0, 1, 0);
        change("least bits", x, 0, 2);
        change("never to 2", x, 2, -2);
        // The last side in the ring swears over to the first, and pleads for the last.
        x = on("sides 3;man a 2 5 0 0;motion m 0 0 0;juror j 0;");
        change("to the last", x, 2, 1);
        change("never to 1", x, 1, -2);
        // SWORN ones do not.
        x = on("man a 0 5 0 0;motion m 0 0 0;juror j 0;");
        x.swear(0, 1);
        change("sworn, it is so", x, 0, 0);
        change("sworn, by none", x, 1, -2);
        // They are SWORN then for the laws too; slips are left out.
        // Both plead for 1. a over has 1 to b's 3 (slipped, or not sworn, he had 5), b over 1 to a's 5.
        x = on("man a 0 5 10 0;man b 0 3 0 0;motion m 0 0 0;juror j 0;argues=skill-sworn*4+slip*4;");
        change("sworn ones argue worse", x, 0, 3);
        x = on("man a 0 5 0 0;man b 0 4 0 0;motion m 0 0 0;juror j 0;argues=if sworn<2 then skill else 0;");
        change("sworn is 1, no more", x, 0, 1);
        x = on(men(7, " 0 5 0 0;") + "motion m 0 0 0;juror j 0;argues=5-sworn;");
        change("all seven", x, 0, 127);
    }

    private static void noChange() {
        WorseSenate x = Check.of(TWO + JUROR);
        change("nobody speaks on it", x, 0, -2);
        x.speak(0, 0, 0);
        for (int what : new int[] {-2, -1, 2, BIG, LOW}) {
            due("what " + what, x.change(0, 0, what), -1);
        }
        for (int motion : NO_MOTIONS) {
            due("motion " + motion, x.change(motion, 0, 0), -1);
        }
        for (int side : NO_SIDES) {
            due("side " + side, x.change(0, side, 1), -1);
        }
        x.session(0);
        change("fallen", x, 1, -2);
        change("no jurors", on(TWO), 1, -2);
    }

    private static void choose(String call, WorseSenate x, int side, int... manners) {
        for (int i = 0; i < manners.length; i++) {
            due(call + ": manner of " + i, x.choose(0, side, i), manners[i]);
        }
        due(call + ": no more", x.choose(0, side, manners.length), -1);
    }

    private static void threeAtMost() {
        // They plead for 1 and would have it fall to 0, for which e has 5. d stays at 9: the others may have 11.
        String text = "man a 0 5 0 0;man b 0 9 5 0;man c 0 9 0 0;man d 0 9 0 0;man e 1 5 0 0;motion m 0 0 0;"
            + "motion n 0 0 0;juror j 0;argues=skill-manner*2;";
        WorseSenate x = on(text);
        choose("three of four", x, 0, 0, 3, 3);
        choose("one", x, 1, 0);
        // The fourth keeps his manner, which may be any.
        x.speak(3, 0, 1);
        choose("the fourth mumbles: 16 for the others", x, 0, 0, 1, 1);
        // The first ones who speak on it: b, c and d, if a is silent, or speaks on another.
        x = on(text);
        x.speak(0, 1, 0);
        due("four no longer", x.choose(0, 0, 3), -1);
        due("b is the first", x.choose(0, 0, 0), 0);
        due("likely", x.chosen(0, 0, false), 1);
        // Likeliest: plain he has 5, slipped 9 (2 of 10); clumsy 7 ever; a joke 4, slipped 8; b has 6.
        x = on("man a 0 5 2 0;man b 1 6 0 0;motion m 0 0 0;juror j 0;"
            + "argues=if manner<3 then skill+slip*4 else 7;");
        choose("a mumble is sure", x, 0, 1);
        due("sure", x.chosen(0, 0, false), 1);
        x = on("man a 0 5 2 0;man b 1 4 0 0;motion m 0 0 0;juror j 0;argues=if manner<3 then skill+slip*4 else 7;");
        choose("a mumble is alike to 4", x, 0, 1);
        x = on("man a 0 4 2 0;man b 1 3 0 0;motion m 0 0 0;juror j 0;"
            + "argues=if manner<3 then skill-manner+slip*4 else skill-manner/2+slip*0-slip;marks=good;");
        // Plain 4 or 8, a mumble 4, a joke 2 or 6, clumsy 3 or 2: only a joke unslipped, or clumsy, falls to 0.
        choose("surer than a joke", x, 0, 3);
        due("surer", x.chosen(0, 0, true), 1);
        x = on("man a 0 4 2 0;man b 1 3 0 0;motion m 0 0 0;juror j 0;argues=if manner<3 then skill-manner+slip*4 else 9;");
        choose("a joke", x, 0, 2);
        due("four", x.chosen(0, 0, false), 4);
        due("of five", x.chosen(0, 0, true), 5);
        // By slips of others too: b has 3, slipped 7 (4 of 10), to a's 5 or 4.
        x = on("man a 0 5 0 0;man b 1 3 4 0;motion m 0 0 0;juror j 0;argues=skill+slip*4;");
        due("two", x.chosen(0, 0, false), 2);
        due("of five, whatever a does", x.chosen(0, 0, true), 5);
        choose("plain", x, 0, 0);
        // By slips of each of them: a has 6 or 3, b 8 or 5 (5 of 10 each), e 5. Both plain it falls to 0 if both slip, or
        // if a slips and b's 8 is too much: 3 + 8 is more than 10; a's 6 and b's 5 as well. That b mumbles makes it
        // 6 + 4: ever; so [0, 1].
        x = on("man a 0 6 5 0;man b 0 8 5 0;man e 1 5 0 0;motion m 0 0 0;juror j 0;argues=skill-slip*3;");
        choose("the second mumbles", x, 0, 0, 1);
        due("ever", x.chosen(0, 0, true), 1);
        // A mumble of 4 is too much for e's 2: a has 1, slipped 9 (9 of 10), b 3, slipped 2 (5 of 10): only 1 + 3 and 1 + 2.
        x = on("man a 0 1 9 0;man b 0 3 5 0;man e 1 2 0 0;motion m 0 0 0;juror j 0;"
            + "argues=if skill<2 then skill+slip*8 else skill-slip;marks=if good<3 then good else good+manner;");
        choose("by slips of both", x, 0, 0, 0);
        due("one", x.chosen(0, 0, false), 1);
        due("of ten", x.chosen(0, 0, true), 10);
        x = on("man a 0 5 3 0;man b 1 6 0 0;motion m 0 0 0;juror j 0;"
            + "argues=if slip<2 then skill+slip*4 else 0;marks=if manner<1 then good else 9;");
        choose("a slip is 1, no more: it would not be plain", x, 0, 1);
        // A sworn one is of the side that he went to.
        x = on("man a 0 5 0 0;man b 1 4 0 0;motion m 0 0 0;juror j 0;");
        x.swear(0, 1);
        choose("two of 1", x, 1, 0, 0);
        choose("none of 0", x, 0);
    }

    private static void firstManners() {
        // All alike: plain, whatever they are to speak in.
        WorseSenate x = Check.of("man a 0 5 0 0;man b 0 5 0 0;man c 0 5 0 0;motion m 0 0 0;juror j 0;");
        for (int man = 0; man < 3; man++) {
            x.speak(man, 0, 3);
        }
        choose("all alike", x, 1);
        choose("never to 0", x, 0, 0, 0, 0);
        due("0 by 1", x.chosen(0, 0, true), 1);
        // 6 and 4 are alike to 5, and fall to 0: that the second one mumbles is ahead of that the first one does.
        x = on("man a 0 6 0 0;man b 0 6 0 0;man e 1 5 0 0;motion m 0 0 0;juror j 0;");
        choose("the second mumbles", x, 0, 0, 1);
        // Here the first one has to: a 9 of his is too much.
        x = on("man a 0 9 0 0;man b 0 6 0 0;man e 1 5 0 0;motion m 0 0 0;juror j 0;");
        choose("the first mumbles", x, 0, 1, 0);
        // Of three, who have 9, clumsy 1: by e's 3 all together may have 9, by his 2 they may have 6, by his 1 but 3.
        int[][] three = {{3, 3, 3}, {1, 3, 3}, {1, 1, 3}};
        for (int skill = 1; skill <= 3; skill++) {
            x = on(men(3, " 0 9 0 0;") + "man e 1 " + skill + " 0 0;motion m 0 0 0;juror j 0;"
                + "argues=if manner<3 then skill else 1;");
            choose("three to " + skill, x, 0, three[skill - 1]);
        }
        // Clumsy a has 1, ahead of e's 3, unless he reads b's 9.
        x = Check.of("man a 0 9 0 9;man e 1 3 0 0;man b 0 9 0 0;motion m 0 0 0;motion n 0 0 0;juror j 0;"
            + "argues=if manner<3 then skill else 1;");
        x.speak(2, 1, 0);
        x.session(1);
        x.speak(0, 0, 0);
        x.speak(1, 0, 0);
        choose("reads nothing", x, 0, 3);
        due("sure", x.chosen(0, 0, false), 1);
        due("reads", x.reads(0, 2), 0);
        choose("reads yet", x, 0, 0);
        due("never", x.chosen(0, 0, false), 0);
        // In a manner that counts for what is read as well.
        x.speak(1, 0, 1);
        choose("reads and mumbles", x, 0, 1);
    }

    private static void noChoose() {
        WorseSenate x = Check.of(TWO + JUROR);
        choose("nobody", x, 0);
        x.speak(0, 0, 0);
        choose("one of 0", x, 0, 0);
        choose("none of 1", x, 1);
        for (int i : new int[] {-2, -1, 1, 3, BIG, LOW}) {
            due("i " + i, x.choose(0, 0, i), -1);
        }
        for (int motion : NO_MOTIONS) {
            due("motion " + motion, x.choose(motion, 0, 0), -1);
            due("motion " + motion + ", silent ones", x.choose(motion, 1, 0), -1);
        }
        for (int side : NO_SIDES) {
            due("side " + side, x.choose(0, side, 0), -1);
        }
        choose("no jurors", on(TWO), 0, 0);
        choose("three", on(men(3, " 0 5 0 0;") + "motion m 0 0 0;"), 0, 0, 0, 0);
        choose("seven", on(men(7, " 0 5 0 0;") + "motion m 0 0 0;"), 0, 0, 0, 0);
    }

    private static void noChosen() {
        WorseSenate x = Check.of(TWO + JUROR);
        due("nobody: 0", x.chosen(0, 0, false), 0);
        due("nobody: by 1", x.chosen(0, 0, true), 1);
        x.speak(0, 0, 0);
        due("none of 1 speaks: as it is", x.chosen(0, 1, false), 1);
        due("none of 1 speaks: by", x.chosen(0, 1, true), 1);
        due("never to 0", x.chosen(0, 0, false), 0);
        for (int motion : NO_MOTIONS) {
            due("motion " + motion, x.chosen(motion, 0, false), -1);
        }
        for (int side : NO_SIDES) {
            due("side " + side, x.chosen(0, side, true), -1);
        }
        x = on(TWO);
        due("no jurors: 0", x.chosen(0, 1, false), 0);
        due("no jurors: by 1", x.chosen(0, 1, true), 1);
    }

    private static void mumbleAndJury() {
        Check.sentence("MUMBLE: sets of those who speak on it who mumble instead of their MANNER, so that (without slips) "
            + "nobody, by himself doing the other thing, had more: WORTH to his SIDE, if it FALLS TO that, else 0: RESTS.",
            QuestionEdgesTest::nobodyHadMore);
        Check.sentence("MUMBLE: RESTS: how many (i NONE), else the i-th (bits, the least first); NONE: no such ones, not so "
            + "many.", QuestionEdgesTest::noMumble);
        Check.sentence("JURY of n: those n JURORS by whom the greatest SUM of a SIDE in the mean is least apart from the "
            + "least one of the SIDES that speak on it (without slips, MARKS of these alone)",
            QuestionEdgesTest::leastApart);
        Check.sentence("of alike ones the least bits; how far, 100 times, rounded down.", QuestionEdgesTest::howFar);
        Check.sentence("JURY (n 1 .. 8): what 0 who (bits), 1 how far; -2: not so many JURORS, nobody speaks on it; NONE: no "
            + "such ones.", QuestionEdgesTest::noJury);
    }

    private static void rests(String call, WorseSenate x, int... sets) {
        due(call + ": how many", x.mumble(0, -1), sets.length);
        for (int i = 0; i < sets.length; i++) {
            due(call + ": " + i, x.mumble(0, i), sets[i]);
        }
        due(call + ": no more", x.mumble(0, sets.length), -1);
    }

    private static void nobodyHadMore() {
        // a of 0 pleads for 1 with 6, b of 1 for 0 with 5; mumbles have 4, alike ones fall to 0.
        // {}: to 1: a would mumble. {a}: to 0: b cannot help it. {b}: to 1, a would mumble. Both: to 0, nor then.
        String two = "man a 0 6 0 0;man b 1 5 0 0;juror j 0;";
        rests("worth to both", on(two + "motion m 1 1 0;"), 1, 3);
        rests("worth most", on(two + "motion m 99 99 99;"), 1, 3);
        // Worth nothing, nobody has more; worth to 1 alone, a has nothing of it.
        rests("worth nothing", on(two + "motion m 0 0 99;"), 0, 1, 2, 3);
        rests("worth to 1 alone", on(two + "motion m 0 1 0;"), 0, 1, 2, 3);
        rests("worth to 0 alone", on(two + "motion m 1 0 0;"), 1, 3);
        // One who is to mumble anyway does nothing other.
        WorseSenate x = on(two + "motion m 1 1 0;");
        x.speak(0, 0, 1);
        rests("a mumbles anyway", x, 0, 1, 2, 3);
        // A mumble of 4 is better than 1: a pleads for 1 with 1, b for 0 with 2.
        // {}: to 0: b has nothing of it, nor by a mumble. {a}: to 1: a would rather not. {b}: to 0, as without it.
        // {a, b}: alike, to 0: b would rather not, for then it fell to 1.
        rests("mumbles that are better", on("man a 0 1 0 0;man b 1 2 0 0;motion m 1 1 0;juror j 0;"), 0, 2);
        // Slips are left out; a sworn one has what it is worth to the side that he is of.
        rests("slips", on("man a 0 6 10 0;man b 1 5 10 0;juror j 0;motion m 1 1 0;argues=skill-slip*9;"), 1, 3);
        x = on("man a 0 6 0 0;juror j 0;motion m 1 0 0;");
        x.swear(0, 1);
        rests("sworn", x, 0, 1);
        // Two of 0 for 1, who need both to mumble: one alone gains nothing.
        // Marks are 6, 6 to 4: both mumbling is alike, to 0; then each alone would have it fall to 1, and less.
        rests("both or none", on("man a 0 6 0 0;man b 0 6 0 0;man c 1 4 0 0;motion m 1 1 0;juror j 0;"), 0, 3, 4, 7);
    }

    private static void noMumble() {
        WorseSenate x = Check.of(TWO + JUROR);
        rests("nobody speaks: nobody mumbles", x, 0);
        for (int motion : NO_MOTIONS) {
            due("motion " + motion, x.mumble(motion, -1), -1);
            due("motion " + motion + ", 0", x.mumble(motion, 0), -1);
        }
        x = on(men(7, " 0 5 0 0;") + "motion m 0 0 0;juror j 0;");
        due("all sets of seven", x.mumble(0, -1), 128);
        due("the first", x.mumble(0, 0), 0);
        due("the 64th", x.mumble(0, 64), 64);
        due("the last", x.mumble(0, 127), 127);
        for (int i : new int[] {-2, 128, BIG, LOW}) {
            due("i " + i, x.mumble(0, i), -1);
        }
        // Bits are of MEN, the least first.
        x = Check.of("man z 0 1 0 0;man a 0 6 0 0;man y 0 1 0 0;man b 1 5 0 0;motion m 1 1 0;juror j 0;");
        x.speak(1, 0, 0);
        x.speak(3, 0, 0);
        rests("bits of men", x, 2, 10);
        rests("no jurors", on(TWO), 0, 1, 2, 3);
    }

    private static void jury(WorseSenate x, int n, int who, int far) {
        due("jury of " + n, x.jury(0, n, 0), who);
        due("how far by " + n, x.jury(0, n, 1), far);
    }

    /** a has 3, 4, 3, 3 for 1, b 3, 3, 5, 6 for 2. */
    private static final String FOUR = "sides 3;man a 0 5 10 0;man b 1 5 10 0;motion m 0 0 0;motion n 0 0 0;juror p 1;"
        + "juror q 1;juror r 2;juror s 2;marks=3+lean*which+slip*4;";

    private static void leastApart() {
        WorseSenate x = on(FOUR);
        jury(x, 1, 1, 0);
        jury(x, 2, 3, 100);
        jury(x, 3, 7, 100);
        jury(x, 4, 15, 400);
        // Of one side alone there is nothing apart; a side that nobody speaks for is none.
        x.speak(0, -1, 0);
        jury(x, 1, 1, 0);
        jury(x, 3, 7, 0);
        // The greatest from the least one of three, the one between does not count.
        // Marks for 1, 2, 0: by p 9 5 1, by q 5 6 1, by r 4 4 9: apart 8, 5, 5.
        // p q: 14 11 2: 12; p r: 13 9 10: 4; q r: 9 10 10: 1; all: 18 15 11: 7.
        x = on("sides 3;man a 0 1 0 0;man b 1 2 0 0;man c 2 3 0 0;motion m 0 0 0;juror p 0;juror q 0;juror r 0;"
            + "marks=if which<1 then 13-skill*4 else if which<2 then skill*(19-6*skill)-8 "
            + "else if skill<3 then 4 else 9;");
        int[] marks = {9, 5, 1, 5, 6, 1, 4, 4, 9};
        for (int i = 0; i < 9; i++) {
            due("mark", x.mark(i / 3, i % 3, false), marks[i]);
        }
        jury(x, 1, 2, 500);
        jury(x, 2, 6, 100);
        jury(x, 3, 7, 700);
        // In the mean of two, three and two: by p 8.5, 5, 4, by q 5, 8, 4.
        x = on("sides 3;man a 0 9 0 0;man b 0 8 0 0;man c 1 5 0 0;man d 1 5 0 0;man e 1 5 0 0;man f 2 4 0 0;"
            + "man g 2 4 0 0;motion m 0 0 0;juror p 0;juror q 0;"
            + "marks=if which<1 then skill else if skill<5 then 4 else if skill<6 then 8 else 5;");
        jury(x, 1, 2, 400);
        // Likewise: for 1, 2, 0 by p 8, 4, 5, by q 4, 5, 9.
        x = on("sides 3;man a 0 8 0 0;man b 0 8 0 0;man c 1 4 0 0;man d 1 4 0 0;man e 2 5 0 0;man f 2 5 0 0;"
            + "man g 2 5 0 0;motion m 0 0 0;juror p 0;juror q 0;"
            + "marks=if which<1 then skill else if skill<5 then 5 else if skill<6 then 9 else 4;");
        jury(x, 1, 1, 400);
        // In the mean of one, one and four, for 1, 2, 0: by p 7, 5, 6, by q 5, 6, 8: 2 and 3 apart.
        x = on("sides 3;man a 0 7 0 0;man b 1 5 0 0;man c 2 6 0 0;man d 2 6 0 0;man e 2 6 0 0;man f 2 6 0 0;"
            + "motion m 0 0 0;juror p 0;juror q 0;"
            + "marks=if which<1 then skill else if skill<6 then 6 else if skill<7 then 8 else 5;");
        jury(x, 1, 1, 200);
    }

    private static void howFar() {
        // By one 5 + 5 + 4 to 4, two thirds; by the others 4 is 5.
        WorseSenate x = on("man a 0 5 0 0;man b 0 5 0 0;man c 0 4 0 0;man d 1 4 0 0;motion m 0 0 0;juror i 1;juror j 1;");
        jury(x, 1, 1, 66);
        jury(x, 2, 3, 133);
        // 14 by 3 and 9 by 2: a sixth.
        x = on("man a 0 5 0 0;man b 0 5 0 0;man c 0 4 0 0;man d 1 5 0 0;man e 1 4 0 0;motion m 0 0 0;juror i 1;");
        jury(x, 1, 1, 16);
        // Alike ones: all of eight.
        x = on("man a 0 9 0 0;man b 1 1 0 0;motion m 0 0 0;" + jurors(8, " 0;"));
        for (int n = 1; n <= 8; n++) {
            jury(x, n, (1 << n) - 1, 800 * n);
        }
        // The last ones are the fairest.
        x = on("man a 0 9 0 0;man b 1 1 0 0;motion m 0 0 0;marks=if which<6 then good else 5;" + jurors(8, " 0;"));
        jury(x, 1, 64, 0);
        jury(x, 2, 192, 0);
        jury(x, 3, 193, 800);
    }

    private static void noJury() {
        WorseSenate x = on(FOUR);
        due("not so many", x.jury(0, 5, 0), -2);
        due("not so many: how far", x.jury(0, 8, 1), -2);
        due("nobody speaks on it", x.jury(1, 1, 0), -2);
        due("nobody speaks on it: how far", x.jury(1, 4, 1), -2);
        for (int n : new int[] {-1, 0, 9, BIG, LOW}) {
            due("n " + n, x.jury(0, n, 0), -1);
            due("n " + n + ", nobody", x.jury(1, n, 0), -1);
        }
        for (int what : new int[] {-2, -1, 2, BIG, LOW}) {
            due("what " + what, x.jury(0, 1, what), -1);
        }
        for (int motion : NO_MOTIONS) {
            due("motion " + motion, x.jury(motion, 1, 0), -1);
        }
        due("no jurors", on(TWO).jury(0, 1, 0), -2);
    }

    private static void sayToHarsh() {
        Check.sentence("SAY: the least GOOD with which a plain SPEECH of a MAN now (not slipped, nothing read) would have a "
            + "SUM of so many or more, by MARKS.", QuestionEdgesTest::leastGood);
        Check.sentence("SAY (a SUM 0 .. 99); -2: by none; NONE: no such ones.", QuestionEdgesTest::noSay);
        Check.sentence("FINE of a MAN: what he would pay now for the SPEECH that he is to speak, slipped or not.",
            QuestionEdgesTest::wouldPay);
        Check.sentence("FINE; -2: he is to speak on nothing, no JURORS; NONE: no such one.", QuestionEdgesTest::noFine);
        Check.sentence("AHEAD: how much the SIDE to which it FALLS now has more in the mean than the next one that speaks on "
            + "it, 100 times, rounded down.", QuestionEdgesTest::howMuchMore);
        Check.sentence("AHEAD; -2: less than two SIDES speak on it, no JURORS; NONE: no such one.",
            QuestionEdgesTest::noAhead);
        Check.sentence("HARSH (or KIND): the JUROR who gives all SPEECHES on it the least (or most) together, without slips; "
            + "of alike ones the first.", QuestionEdgesTest::harshest);
        Check.sentence("HARSH (kind: KIND); -2: nobody speaks on it, no JURORS; NONE: no such one.",
            QuestionEdgesTest::noHarsh);
    }

    private static int says(String marks, int sum) {
        return Check.of("man a 0 5 10 0;juror j 0;marks=" + marks + ";").say(0, sum);
    }

    private static void leastGood() {
        due("just so many", says("good", 7), 7);
        due("or more", says("if good<10 then 1 else 9", 2), 10);
        due("GOOD 0", says("9-good", 9), 0);
        due("GOOD 0 for 1", says("good", 1), 0);
        due("GOOD 99", says("if good<99 then 1 else 9", 9), 99);
        due("never 100", says("if good<100 then 1 else 9", 9), -2);
        due("the least one of a fall and a rise", says("if good<3 then 5 else if good<50 then 1 else 9", 4), 0);
        due("beyond the fall", says("if good<3 then 5 else if good<50 then 1 else 9", 6), 50);
        due("not slipped", says("good+slip*9", 9), 9);
        // Plain, whatever he is to speak; nothing read; praise and day count.
        WorseSenate x = Check.of("man a 0 5 0 9;man b 0 9 0 9;motion m 0 0 0;motion n 0 0 0;juror j 0;"
            + "marks=good+praise-manner+day;");
        due("day 0", x.say(0, 9), 9);
        x.speak(1, 0, 0);
        x.session(0);
        due("day 1", x.say(0, 9), 8);
        x.speak(0, 1, 1);
        due("not mumbled", x.say(0, 9), 8);
        x.speak(0, 1, 3);
        due("not clumsy", x.say(0, 9), 8);
        x.praise(0);
        due("praised", x.say(0, 9), 7);
        x.reads(0, 1);
        due("nothing read", x.say(0, 9), 7);
    }

    private static void noSay() {
        WorseSenate x = Check.of(TWO + jurors(8, " 0;"));
        due("0", x.say(0, 0), 0);
        due("72", x.say(0, 72), 9);
        due("73", x.say(0, 73), -2);
        due("99", x.say(0, 99), -2);
        for (int sum : new int[] {-2, -1, 100, BIG, LOW}) {
            due("sum " + sum, x.say(0, sum), -1);
        }
        for (int man : NO_MEN) {
            due("man " + man, x.say(man, 5), -1);
            due("man " + man + " by none", x.say(man, 99), -1);
        }
        x = Check.of(TWO);
        due("no jurors: 0", x.say(0, 0), 0);
        due("no jurors: by none", x.say(0, 1), -2);
    }

    private static void wouldPay() {
        WorseSenate x = on("man a 0 5 0 20;man b 0 5 0 3;motion m 0 0 0;juror j 0;argues=skill+slip*3;fines=good+slip;");
        due("not slipped", x.fine(0, false), 5);
        due("slipped", x.fine(0, true), 9);
        due("no more than he has", x.fine(1, false), 3);
        due("nor slipped", x.fine(1, true), 3);
        x.speak(0, 0, 1);
        due("a mumble", x.fine(0, true), 5);
        due("nothing is paid", x.count(7), 0);
    }

    private static void noFine() {
        WorseSenate x = Check.of(TWO + JUROR + "fines=2;");
        due("he is to speak on nothing", x.fine(0, false), -2);
        x.speak(0, 0, 0);
        due("fine", x.fine(0, false), 2);
        due("the other one", x.fine(1, true), -2);
        for (int man : NO_MEN) {
            due("man " + man, x.fine(man, false), -1);
        }
        x.session(0);
        due("he spoke", x.fine(0, false), -2);
        x = on(TWO + "fines=2;");
        due("no JURORS", x.fine(0, false), -2);
        due("no such one", x.fine(2, false), -1);
    }

    private static void howMuchMore() {
        due("6 to 4", on(TWO + JUROR).ahead(0), 200);
        due("alike", on("man a 0 5 0 0;man b 1 5 0 0;motion m 0 0 0;juror j 0;").ahead(0), 0);
        due("two thirds", on("man a 0 5 0 0;man b 0 5 0 0;man c 0 4 0 0;man d 1 4 0 0;motion m 0 0 0;juror j 0;").ahead(0),
            66);
        due("a sixth", on("man a 0 5 0 0;man b 0 5 0 0;man c 0 4 0 0;man d 1 5 0 0;man e 1 4 0 0;motion m 0 0 0;juror j 0;")
            .ahead(0), 16);
        due("most", on("man a 0 9 0 0;man b 1 1 0 0;motion m 0 0 0;" + jurors(8, " 0;")).ahead(0), 6400);
        // Of three the second one, whichever side it is.
        String three = "sides 3;motion m 0 0 0;juror j 0;";
        due("9 7 4", on(three + "man a 0 9 0 0;man b 1 7 0 0;man c 2 4 0 0;").ahead(0), 200);
        due("9 4 7", on(three + "man a 0 9 0 0;man b 1 4 0 0;man c 2 7 0 0;").ahead(0), 200);
        due("4 7 9", on(three + "man a 0 4 0 0;man b 1 7 0 0;man c 2 9 0 0;").ahead(0), 200);
        due("alike with the first", on(three + "man a 0 9 0 0;man b 1 9 0 0;man c 2 4 0 0;").ahead(0), 0);
        due("only two of three speak", on(three + "man a 0 9 0 0;man c 2 4 0 0;").ahead(0), 500);
        due("slips left out", on("man a 0 6 10 0;man b 1 4 0 0;motion m 0 0 0;juror j 0;argues=skill+slip;").ahead(0), 200);
    }

    private static void noAhead() {
        WorseSenate x = Check.of(TWO + JUROR);
        due("nobody", x.ahead(0), -2);
        x.speak(0, 0, 0);
        due("one side", x.ahead(0), -2);
        x.speak(1, 1, 0);
        due("the other on another", x.ahead(0), -2);
        x.speak(1, 0, 0);
        due("two", x.ahead(0), 200);
        x.swear(0, 1);
        due("two men, one side", x.ahead(0), -2);
        for (int motion : NO_MOTIONS) {
            due("motion " + motion, x.ahead(motion), -1);
        }
        due("no JURORS", on(TWO).ahead(0), -2);
    }

    private static void harshest() {
        // For a, pleading for 1: 5 and 4 more by who leans; for b, for 0, 5 and 1 more.
        String text = "man a 0 5 10 0;man b 1 5 0 0;motion m 0 0 0;marks=if skill<0 then 1 else good+lean*which+slip*which;";
        WorseSenate x = on(text + "juror p 0;juror q 0;juror r 1;juror s 0;");
        // 10, 11, 12, 13.
        due("least", x.harsh(0, false), 0);
        due("most", x.harsh(0, true), 3);
        x.speak(1, -1, 0);
        // For a alone: 5, 5, 7, 5; with slips 5, 6, 9, 8.
        due("least: the first", x.harsh(0, false), 0);
        due("most of a", x.harsh(0, true), 2);
        x = on("man a 0 5 0 0;motion m 0 0 0;marks=if which<1 then 9 else if which<6 then 4 else if which<7 then 1 else 2;"
            + jurors(8, " 0;"));
        due("the seventh is harsh", x.harsh(0, false), 6);
        due("the first is kind", x.harsh(0, true), 0);
        x = on("man a 0 5 0 0;motion m 0 0 0;marks=if which<7 then 4 else 5;" + jurors(8, " 0;"));
        due("alike: the first", x.harsh(0, false), 0);
        due("the last is kind", x.harsh(0, true), 7);
        x = on("man a 0 5 0 0;motion m 0 0 0;marks=if which<7 then 5 else 4;" + jurors(8, " 0;"));
        due("the last is harsh", x.harsh(0, false), 7);
        due("alike kind ones: the first", x.harsh(0, true), 0);
        // All speeches, for whichever side.
        x = on("sides 3;" + men(7, " 2 9 0 0;") + "motion m 0 0 0;marks=which+good/2;" + jurors(3, " 0;"));
        due("seven: harsh", x.harsh(0, false), 0);
        due("seven: kind", x.harsh(0, true), 2);
    }

    private static void noHarsh() {
        WorseSenate x = Check.of(TWO + JUROR);
        due("nobody", x.harsh(0, false), -2);
        x.speak(0, 0, 0);
        due("the one juror", x.harsh(0, false), 0);
        due("the one juror, kind", x.harsh(0, true), 0);
        due("on another nobody", x.harsh(1, true), -2);
        for (int motion : NO_MOTIONS) {
            due("motion " + motion, x.harsh(motion, false), -1);
        }
        due("no JURORS", on(TWO).harsh(0, false), -2);
    }

    private static void praiseToYear() {
        Check.sentence("PRAISE for a SIDE: how often more a MAN who speaks on it must be praised (9 in all at most), so that "
            + "it FALLS TO it without slips.", QuestionEdgesTest::nineInAll);
        Check.sentence("PRAISE; -2: not by that, he does not speak on it; NONE: no such ones.",
            QuestionEdgesTest::noPraiseFor);
        Check.sentence("OLD: how much more the SUM of the SPEECH that a MAN is to speak would be (not slipped), if he READ "
            + "the one kept of another one, whatever it costs.", QuestionEdgesTest::ifHeRead);
        Check.sentence("OLD; -10000: he is to speak on nothing, none is kept, no such ones, one and the same.",
            QuestionEdgesTest::noOld);
        Check.sentence("YEAR by s SEEDS (1 .. 20) from the text's SEED on: WORTH to a SIDE of all MOTIONS yet to fall that "
            + "somebody speaks on, in SESSIONS by numbers, that FALL TO it, in all of them together.",
            QuestionEdgesTest::bySeeds);
        Check.sentence("YEAR; NONE: no such ones.", QuestionEdgesTest::noYear);
    }

    private static void nineInAll() {
        // a has 1 till he is praised nine times, then 9; b has 5 for 0.
        String text = "man a 0 1 10 0;man b 1 5 0 0;motion m 0 0 0;juror j 0;"
            + "argues=if which<1 then praise/9*8+slip*8+1 else 5;";
        WorseSenate x = on(text);
        due("it is so", x.praiseFor(0, 0, 0), 0);
        for (int praised = 0; praised <= 9; praised++) {
            due("praised " + praised, x.praiseFor(0, 1, 0), 9 - praised);
            x.praise(0);
        }
        due("nine, it fell to 1 by it", x.praiseFor(0, 0, 0), -2);
        due("not by b's", x.praiseFor(0, 0, 1), -2);
        x = on("man a 0 1 0 0;man b 1 5 0 0;motion m 0 0 0;juror j 0;argues=if which<1 then praise/10*8+1 else 5;");
        due("not by ten", x.praiseFor(0, 1, 0), -2);
        // The least, where more would spoil it again; one who reads gains by MARKS alone.
        x = on("man a 0 1 0 0;man b 1 5 0 0;motion m 0 0 0;juror j 0;"
            + "argues=if skill<5 then praise*(6-praise) else 5;");
        due("5, 8: the second", x.praiseFor(0, 1, 0), 2);
        x.praise(0);
        x.praise(0);
        x.praise(0);
        x.praise(0);
        x.praise(0);
        due("5 is alike, then less", x.praiseFor(0, 1, 0), -2);
        due("it is so with five", x.praiseFor(0, 0, 0), 0);
    }

    private static void noPraiseFor() {
        WorseSenate x = Check.of(TWO + JUROR);
        due("silent", x.praiseFor(0, 1, 0), -2);
        x.speak(0, 0, 0);
        due("it is so", x.praiseFor(0, 1, 0), 0);
        due("he does not speak on it", x.praiseFor(0, 1, 1), -2);
        due("he speaks on another", x.praiseFor(1, 1, 0), -2);
        due("not by that", x.praiseFor(0, 0, 0), -2);
        for (int motion : NO_MOTIONS) {
            due("motion " + motion, x.praiseFor(motion, 1, 0), -1);
        }
        for (int side : NO_SIDES) {
            due("side " + side, x.praiseFor(0, side, 0), -1);
            due("side " + side + ", not on it", x.praiseFor(0, side, 1), -1);
        }
        for (int man : NO_MEN) {
            due("man " + man, x.praiseFor(0, 1, man), -1);
        }
        due("no jurors", on(TWO).praiseFor(0, 1, 0), -2);
    }

    private static void ifHeRead() {
        WorseSenate x = Check.of("man a 0 6 10 0;man b 1 4 10 0;man c 1 9 0 0;man d 0 6 0 0;motion m 0 0 0;motion n 0 0 0;"
            + "motion o 0 0 0;" + jurors(8, " 0;") + "argues=skill;marks=good+slip;");
        x.speak(1, 0, 0);
        x.speak(2, 0, 0);
        x.speak(3, 0, 0);
        x.session(0);
        x.speak(0, 1, 0);
        due("less", x.old(0, 1), -16);
        due("more", x.old(0, 2), 24);
        due("as much", x.old(0, 3), 0);
        due("he has no coins", x.reads(0, 2), -2);
        x.speak(0, 1, 1);
        due("a mumble is a mumble", x.old(0, 2), 0);
        // Against what he reads already.
        x = Check.of("man a 0 6 0 99;man b 1 4 0 0;man c 1 9 0 0;motion m 0 0 0;motion n 0 0 0;juror j 0;");
        x.speak(1, 0, 0);
        x.speak(2, 0, 0);
        x.session(0);
        x.speak(0, 1, 0);
        x.reads(0, 1);
        due("the same", x.old(0, 1), 0);
        due("another", x.old(0, 2), 5);
        due("he reads b's yet", x.man(0, 8), 1);
        due("coins", x.man(0, 3), 95);
        // As far as it goes: 8 and 72.
        x = Check.of("man a 0 1 0 0;man b 1 9 0 0;motion m 0 0 0;motion n 0 0 0;motion o 0 0 0;" + jurors(8, " 0;"));
        x.speak(0, 0, 0);
        x.speak(1, 0, 0);
        x.session(0);
        x.speak(0, 1, 0);
        x.speak(1, 1, 0);
        due("64 more", x.old(0, 1), 64);
        due("64 less", x.old(1, 0), -64);
    }

    private static void noOld() {
        WorseSenate x = Check.of(TWO + JUROR);
        due("nothing at all", x.old(0, 1), -10000);
        x.speak(0, 0, 0);
        due("none is kept", x.old(0, 1), -10000);
        x.session(0);
        due("on nothing", x.old(1, 0), -10000);
        x.speak(1, 1, 0);
        due("old", x.old(1, 0), 2);
        due("one and the same", x.old(1, 1), -10000);
        x.speak(0, 1, 0);
        due("one and the same, of whom one is kept", x.old(0, 0), -10000);
        for (int man : NO_MEN) {
            due("man " + man, x.old(man, 0), -10000);
            due("other " + man, x.old(1, man), -10000);
        }
        x = on(TWO);
        due("no jurors, none is kept", x.old(0, 1), -10000);
    }

    /** It falls to 1 if a (or c, on n) slips. */
    private static final String YEARS = "man a 0 1 3 0;man c 0 1 5 0;man b 1 3 0 0;man d 1 3 0 0;motion m 10 20 0;"
        + "motion n 3 5 0;juror x 0;argues=skill+slip*5;";

    private static void bySeeds() {
        // LOTs by seeds 0 .. 19: of a on day 0, of c on day 0 and on day 1; of a on day 0 by seeds 9999 .. 10018.
        String a = "94228360166881963784";
        String c = "81190039671363052051";
        String cNext = "94445968384614903946";
        String aFar = "56618929458292401202";
        WorseSenate x = Check.of(YEARS);
        x.speak(0, 0, 0);
        x.speak(2, 0, 0);
        for (int s = 1; s <= 20; s++) {
            int slips = below(a, s, 3);
            due("s " + s, x.year(1, s), 20 * slips);
            due("s " + s + " to 0", x.year(0, s), 10 * (s - slips));
        }
        x.speak(1, 1, 0);
        x.speak(3, 1, 0);
        due("both, c on the next day", x.year(1, 20), 20 * below(a, 20, 3) + 5 * below(cNext, 20, 5));
        due("both to 0", x.year(0, 20), 10 * (20 - below(a, 20, 3)) + 3 * (20 - below(cNext, 20, 5)));
        x.speak(0, -1, 0);
        x.speak(2, -1, 0);
        due("nobody speaks on m: c on this day", x.year(1, 20), 5 * below(c, 20, 5));
        x.speak(0, 0, 0);
        x.session(0);
        due("m has fallen: c on the next day", x.year(1, 20), 5 * below(cNext, 20, 5));
        x = Check.of(YEARS + "seed 9999;");
        x.speak(0, 0, 0);
        x.speak(2, 0, 0);
        for (int s = 1; s <= 20; s += 19) {
            due("seed 9999, s " + s, x.year(1, s), 20 * below(aFar, s, 3));
        }
        x = Check.of(YEARS + "seed 5;");
        x.speak(0, 0, 0);
        x.speak(2, 0, 0);
        due("from the seed on", x.year(1, 4), 20 * (below(a, 9, 3) - below(a, 5, 3)));
        // The laws see the next day as well: on it c has 6 to d's 5.
        x = Check.of("man a 0 1 0 0;man b 1 1 0 0;man c 0 1 0 0;man d 1 1 0 0;motion m 1 2 0;motion n 10 20 0;juror x 0;"
            + "argues=if which<2 then 5-which*day else if which<3 then 5+day else 5;");
        for (int man = 0; man < 4; man++) {
            x.speak(man, man / 2, 0);
        }
        due("m on day 0 to 0, n on day 1 to 1", x.year(0, 1), 1);
        due("n to 1", x.year(1, 3), 60);
        // Those who spoke on it when something else was asked are gone.
        x = on("man a 0 1 0 0;man b 1 3 0 0;motion m 1 2 0;juror x 0;");
        due("both", x.year(0, 1), 1);
        x.speak(1, -1, 0);
        due("one of them is left", x.year(0, 1), 0);
        due("and has it", x.year(1, 1), 2);
        // By numbers, not as they were spoken on: n is on day 1 even if it was the first.
        x = Check.of(YEARS);
        x.speak(1, 1, 0);
        x.speak(3, 1, 0);
        x.speak(0, 0, 0);
        x.speak(2, 0, 0);
        due("by numbers", x.year(1, 20), 20 * below(a, 20, 3) + 5 * below(cNext, 20, 5));
        due("all that can be", on("man a 0 5 0 0;motion m 0 99 0;juror j 0;").year(1, 20), 99 * 20);
    }

    private static int below(String lots, int seeds, int slip) {
        int n = 0;
        for (int i = 0; i < seeds; i++) {
            n += lots.charAt(i) - '0' < slip ? 1 : 0;
        }
        return n;
    }

    private static void noYear() {
        WorseSenate x = Check.of(TWO + JUROR);
        due("nobody speaks on anything", x.year(0, 20), 0);
        x.speak(0, 0, 0);
        due("one", x.year(1, 1), 2);
        for (int s : new int[] {-1, 0, 21, BIG, LOW}) {
            due("s " + s, x.year(1, s), -1);
        }
        for (int side : NO_SIDES) {
            due("side " + side, x.year(side, 1), -1);
        }
        due("a third side", Check.of("sides 3;").year(2, 1), 0);
        due("no jurors", on(TWO).year(1, 20), 0);
        due("nothing told", new WorseSenate().year(1, 20), 0);
    }
}
