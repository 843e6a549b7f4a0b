/** A test of its own for each sentence of part IV, of promises 31 to 37, and of an object's calls, that names an edge. */
public final class KnownEdgesTest {
    private static final int BIG = Integer.MAX_VALUE;
    private static final int LOW = Integer.MIN_VALUE;
    /** a pleads for 1: 10, slipped 16; b for 2: 8, slipped 14; c for 0: 4, slipped 10. */
    private static final String THREE = "sides 3;man a 0 5 0 20;man b 1 4 5 20;man c 2 2 10 20;motion m 1 2 3;"
        + "motion n 4 5 6;juror p 0;juror q 0;argues=skill+slip*3;";

    private KnownEdgesTest() {
    }

    public static void main(String[] args) {
        told();
        known();
        held();
        counted();
        Check.end("KnownEdgesTest");
    }

    private static void due(String call, long got, long want) {
        Check.due(call, got, want);
    }

    private static void due(String call, boolean got, boolean want) {
        Check.due(call, got, want);
    }

    private static void told() {
        Check.sentence("TOLD: the SUM of a SPEECH of a MAN, as he is to speak as it is asked, 20 at most, numbered from 0 on",
            KnownEdgesTest::twentyAtMost);
        Check.sentence("It is TOLD: its number; NONE, and nothing happens: 20 are there, no such ones (a SUM 0 .. 99).",
            KnownEdgesTest::noTell);
        Check.sentence("All that was TOLD is forgotten: how many there were.", KnownEdgesTest::forgotten);
        Check.sentence("KNOWN by k: the first k.", KnownEdgesTest::theFirst);
    }

    private static void twentyAtMost() {
        WorseSenate x = Check.of(THREE);
        for (int i = 0; i < 20; i++) {
            due("number", x.tell(1, i), i);
        }
        due("no more", x.tell(1, 20), -1);
        due("twenty", x.count(10), 20);
        // As he is to speak as it is asked, not as it is told: silent, then plainly, then by a mumble.
        x = Check.of(THREE);
        x.tell(0, 10);
        due("silent", x.slipped(1, -1), 0);
        x.speak(0, 0, 0);
        due("plainly", x.slipped(1, -1), 1);
        x.speak(0, 0, 1);
        due("a mumble has 8", x.slipped(1, -1), 0);
        x.tell(0, 8);
        x.speak(0, 1, 3);
        due("on another, clumsily", x.slipped(1, -1), 1);
        // All twenty are kept and asked.
        x = Check.of(THREE);
        x.speak(0, 0, 0);
        for (int i = 0; i < 19; i++) {
            x.tell(0, 16);
        }
        x.tell(0, 10);
        due("nineteen", x.slipped(19, 0), 1);
        due("the twentieth is not so", x.slipped(20, -1), 0);
    }

    private static void noTell() {
        WorseSenate x = Check.of(THREE);
        due("the least SUM", x.tell(0, 0), 0);
        due("the greatest SUM", x.tell(2, 99), 1);
        int[] before = Check.all(x);
        for (int sum : new int[] {-2, -1, 100, BIG, LOW}) {
            due("sum " + sum, x.tell(0, sum), -1);
        }
        for (int man : new int[] {-2, -1, 3, 7, BIG, LOW}) {
            due("man " + man, x.tell(man, 5), -1);
        }
        Check.same("tell", x, before);
        for (int i = 2; i < 20; i++) {
            due("number", x.tell(1, 8), i);
        }
        before = Check.all(x);
        due("20 are there", x.tell(1, 8), -1);
        Check.same("tell of 20", x, before);
        due("no man", new WorseSenate().tell(0, 0), -1);
        due("none of it can be undone", x.undo(), false);
    }

    private static void forgotten() {
        WorseSenate x = Check.of(THREE);
        due("nothing", x.forget(), 0);
        x.speak(0, 0, 0);
        x.tell(0, 16);
        due("one", x.forget(), 1);
        due("none", x.count(10), 0);
        due("not known by 1", x.slipped(1, -1), -1);
        due("anything", x.slipped(0, -1), 2);
        due("nothing again", x.forget(), 0);
        due("from 0 on", x.tell(0, 10), 0);
        due("what was forgotten does not count", x.slipped(1, 0), 0);
        for (int i = 1; i < 20; i++) {
            x.tell(0, 10);
        }
        due("twenty", x.forget(), 20);
        due("it goes on", x.motion(0, 1), 1);
    }

    private static void theFirst() {
        WorseSenate x = Check.of(THREE);
        x.speak(0, 0, 0);
        x.speak(1, 0, 0);
        x.tell(0, 16);
        x.tell(1, 8);
        x.tell(0, 10);
        int[] sets = {4, 2, 1, 0};
        int[] ofA = {7, 7, 7, 0};
        for (int k = 0; k <= 3; k++) {
            due("slipped by " + k, x.slipped(k, -1), sets[k]);
            due("thinks of a by " + k, x.thinks(0, k), ofA[k]);
        }
        due("not so many are told", x.slipped(4, -1), -1);
        due("nor for thinks", x.thinks(0, 4), -1);
    }

    private static void known() {
        Check.sentence("SLIPPED: sets of MEN who speak on something now, whose sense slips out, so that SUMS of all who are "
            + "KNOWN are as TOLD (of those not KNOWN anything): how many; which.", KnownEdgesTest::setsOfSlips);
        Check.sentence("SLIPPED: how many (i NONE), else the i-th (bits, the least first; of who is KNOWN, but speaks on "
            + "nothing: none at all); NONE: no such ones, not so many.", KnownEdgesTest::noSlipped);
        Check.sentence("THINKS of a MAN: SIDES of which he may be (SWORN, and what he left, as they are), slipped or not, so "
            + "that all that is KNOWN of him is so.", KnownEdgesTest::sidesOfHim);
        Check.sentence("THINKS (bits of SIDES; 0, if he is KNOWN, but speaks on nothing); NONE: no such ones.",
            KnownEdgesTest::noThinks);
    }

    private static void slipped(String call, WorseSenate x, int k, int... sets) {
        due(call + ": how many", x.slipped(k, -1), sets.length);
        for (int i = 0; i < sets.length; i++) {
            due(call + ": " + i, x.slipped(k, i), sets[i]);
        }
        due(call + ": no more", x.slipped(k, sets.length), -1);
    }

    private static void setsOfSlips() {
        WorseSenate x = Check.of(THREE);
        slipped("nobody speaks, nobody is known", x, 0, 0);
        // On whichever motions; of those not known anything, whatever their SLIP is (0, 5 and 10 of ten).
        x.speak(0, 0, 0);
        x.speak(2, 1, 0);
        slipped("none known", x, 0, 0, 1, 4, 5);
        x.tell(0, 16);
        slipped("a slipped", x, 1, 1, 5);
        x.tell(2, 4);
        slipped("a slipped, c did not", x, 2, 1);
        x.tell(2, 4);
        x.tell(0, 16);
        slipped("the same again", x, 4, 1);
        x.tell(2, 10);
        slipped("c both", x, 5);
        x.forget();
        x.tell(0, 11);
        slipped("neither", x, 1);
        // Where a slip makes no other SUM, either may be.
        x.forget();
        x.speak(0, 0, 1);
        x.tell(0, 8);
        slipped("a mumble", x, 1, 0, 1, 4, 5);
        // All seven.
        StringBuilder text = new StringBuilder("motion m 0 0 0;juror j 0;argues=1+slip;");
        for (int man = 0; man < 7; man++) {
            text.append("man ").append((char) ('a' + man)).append(" 0 1 0 0;");
        }
        x = Check.of(text.toString());
        for (int man = 0; man < 7; man++) {
            x.speak(man, 0, 0);
        }
        due("all sets of seven", x.slipped(0, -1), 128);
        due("the last of them", x.slipped(0, 127), 127);
        for (int man = 0; man < 7; man++) {
            x.tell(man, 2 - man % 2);
        }
        slipped("one set", x, 7, 1 + 4 + 16 + 64);
        slipped("two sets", x, 6, 1 + 4 + 16, 1 + 4 + 16 + 64);
        // Without jurors each SUM is 0.
        x = Check.of("man a 0 1 0 0;motion m 0 0 0;");
        x.speak(0, 0, 0);
        x.tell(0, 0);
        slipped("no jurors", x, 1, 0, 1);
    }

    private static void noSlipped() {
        WorseSenate x = Check.of(THREE);
        x.tell(1, 8);
        slipped("known, but silent", x, 1);
        x.speak(0, 0, 0);
        slipped("known, but silent, while another speaks", x, 1);
        slipped("not known by 0", x, 0, 0, 1);
        x.speak(1, 1, 0);
        slipped("he speaks now", x, 1, 0, 1);
        x.session(1);
        slipped("he spoke", x, 1);
        for (int k : new int[] {-2, -1, 2, 20, 21, BIG, LOW}) {
            due("k " + k, x.slipped(k, -1), -1);
            due("k " + k + ", 0", x.slipped(k, 0), -1);
        }
        for (int i : new int[] {-2, 2, BIG, LOW}) {
            due("i " + i, x.slipped(0, i), -1);
        }
    }

    /** Two lean to 0, one to 1: pleading for 0 he has 17 (slipped 20), for 1 16 (19), for 2 15 (18). */
    private static final String LEANS = "sides 3;man a 0 5 0 0;motion m 0 0 0;juror x 0;juror y 0;juror z 1;"
        + "argues=skill+slip;marks=good+lean;";

    private static void sidesOfHim() {
        int[] sums = {14, 15, 16, 17, 18, 19, 20, 21};
        int[] sides = {0, 2, 1, 4, 2, 1, 4, 0};
        for (int i = 0; i < sums.length; i++) {
            WorseSenate x = Check.of(LEANS);
            x.speak(0, 0, 0);
            x.tell(0, sums[i]);
            due("sum " + sums[i], x.thinks(0, 1), sides[i]);
        }
        // All that is known of him, by one speech: slipped or not.
        WorseSenate x = Check.of(LEANS);
        x.speak(0, 0, 0);
        x.tell(0, 16);
        x.tell(0, 19);
        due("both", x.thinks(0, 2), 0);
        // Two sides there are no more of: pleading for 0 he has 17, for 1 16.
        x = Check.of(LEANS + "sides 2;");
        x.speak(0, 0, 0);
        due("nothing is known", x.thinks(0, 0), 3);
        x.tell(0, 17);
        due("of the last one", x.thinks(0, 1), 2);
        // SWORN, and what he left, as they are: he pleads for 0, whatever he is of.
        x = Check.of(LEANS);
        x.speak(0, 0, 0);
        x.swear(0, 1);
        x.tell(0, 17);
        due("sworn", x.thinks(0, 1), 7);
        x.forget();
        x.tell(0, 16);
        due("sworn, not so", x.thinks(0, 1), 0);
        // Of others what is known does not count, be it impossible.
        x = Check.of(THREE);
        x.speak(0, 0, 0);
        x.tell(1, 99);
        due("another one is known", x.thinks(0, 1), 7);
        // A mumble tells nothing of the side, nor does a slip change it.
        x = Check.of(LEANS);
        x.speak(0, 0, 1);
        x.tell(0, 12);
        due("a mumble", x.thinks(0, 1), 7);
    }

    private static void noThinks() {
        WorseSenate x = Check.of(LEANS);
        due("silent, not known", x.thinks(0, 0), 7);
        x.tell(0, 17);
        due("silent, but known", x.thinks(0, 1), 0);
        due("silent, not known by 0", x.thinks(0, 0), 7);
        due("of two sides", Check.of("man a 0 1 0 0;").thinks(0, 0), 3);
        for (int man : new int[] {-2, -1, 1, 7, BIG, LOW}) {
            due("man " + man, x.thinks(man, 0), -1);
        }
        for (int k : new int[] {-2, -1, 2, 21, BIG, LOW}) {
            due("k " + k, x.thinks(0, k), -1);
        }
    }

    private static void held() {
        Check.sentence("All that goes on (not what is TOLD, nor the tape) is held in a SLOT (0 .. 2): true; false: no such "
            + "one.", KnownEdgesTest::heldInASlot);
        Check.sentence("It goes on from what a SLOT holds (that stays there; nothing can be undone then): true",
            KnownEdgesTest::goesOn);
        Check.sentence("false, and nothing happens: no such one, nothing is held.", KnownEdgesTest::noRestore);
    }

    /** All but how many things can be undone, and how many slots hold something. */
    private static void sameButUndone(String call, WorseSenate x, int[] before) {
        int[] row = before.clone();
        row[9] = 0;
        row[11] = x.count(11);
        Check.same(call, x, row);
    }

    private static void heldInASlot() {
        for (int slot = 0; slot < 3; slot++) {
            WorseSenate x = Check.of(THREE);
            x.speak(0, 0, 0);
            x.session(0);
            x.speak(1, 1, 2);
            x.reads(1, 0);
            x.praise(2);
            x.swear(2, 0);
            int[] before = Check.all(x);
            int sum = x.sum(1, false);
            due("hold", x.hold(slot), true);
            due("things can be undone yet", x.count(9), 6);
            x.speak(1, -1, 0);
            x.speak(2, 1, 0);
            x.session(1);
            x.praise(0);
            due("restore", x.restore(slot), true);
            sameButUndone("restore", x, before);
            due("what he reads", x.sum(1, false), sum);
        }
        // Neither what is told nor the tape is held.
        WorseSenate x = Check.of(THREE);
        x.tell(0, 7);
        x.feed(0, 0, 0, 0, 0);
        x.hold(0);
        x.tell(0, 8);
        x.back(5);
        x.restore(0);
        due("told", x.count(10), 2);
        due("tape", x.count(8), 15);
        x.forget();
        x.restore(0);
        due("told no more", x.count(10), 0);
        for (int slot : new int[] {-2, -1, 3, 32, BIG, LOW}) {
            due("slot " + slot, x.hold(slot), false);
        }
        due("one slot", x.count(11), 1);
    }

    private static void goesOn() {
        WorseSenate x = Check.of(THREE);
        x.praise(0);
        x.hold(0);
        x.praise(0);
        x.hold(1);
        x.praise(0);
        x.hold(2);
        x.praise(0);
        for (int round = 0; round < 2; round++) {
            for (int slot = 2; slot >= 0; slot--) {
                due("restore", x.restore(slot), true);
                due("praise of slot " + slot, x.man(0, 6), slot + 1);
                due("nothing can be undone", x.count(9), 0);
                due("undo", x.undo(), false);
                due("it goes on", x.praise(0), slot + 2);
                due("that can be undone", x.undo(), true);
                due("no more", x.undo(), false);
                x.praise(0);
            }
        }
        // What a slot held is gone when it is held anew, in that slot alone; undo is nothing for slots.
        due("anew", x.hold(1), true);
        x.undo();
        x.restore(1);
        due("slot 1 anew", x.man(0, 6), 2);
        x.restore(2);
        due("slot 2 as it was", x.man(0, 6), 3);
    }

    private static void noRestore() {
        WorseSenate x = Check.of(THREE);
        x.speak(0, 0, 0);
        x.praise(0);
        int[] before = Check.all(x);
        for (int slot : new int[] {-2, -1, 0, 1, 2, 3, 32, BIG, LOW}) {
            due("slot " + slot, x.restore(slot), false);
        }
        Check.same("restore", x, before);
        due("it can be undone", x.undo(), true);
        x.hold(1);
        due("slot 0", x.restore(0), false);
        due("slot 2", x.restore(2), false);
        due("slot 1", x.restore(1), true);
        due("a new object can be held", new WorseSenate().hold(0), true);
    }

    private static void counted() {
        Check.sentence("0 SIDES, 1 MEN, 2 MOTIONS, 3 JURORS, 4 the day, 5 MOTIONS that have fallen (bits), 6 who is SWORN "
            + "(bits), 7 all FINES paid, 8 bytes on the tape, 9 things that can be undone, 10 TOLD ones, 11 SLOTS that hold "
            + "something, 12 COINS of all, 13 MEN of whom a SPEECH is kept (bits), 14 how often all of them slipped. NONE for "
            + "others.", KnownEdgesTest::counts);
        Check.sentence("An object is used for at most 512 calls after it has been made; what later calls answer is free.",
            KnownEdgesTest::manyCalls);
        Check.sentence("public static final int NONE = -1;", () -> due("NONE", WorseSenate.NONE, -1));
    }

    private static void counts() {
        StringBuilder text = new StringBuilder("sides 3;fines=9;seed 1;");
        for (int i = 0; i < 7; i++) {
            text.append("man a").append((char) ('a' + i)).append(" 0 1 10 ").append(i == 6 ? 5 : 999).append(";");
        }
        for (int i = 0; i < 5; i++) {
            text.append("motion b").append((char) ('a' + i)).append(" 0 0 0;");
        }
        for (int i = 0; i < 8; i++) {
            text.append("juror c").append((char) ('a' + i)).append(" 0;");
        }
        WorseSenate x = Check.of(text.toString());
        int[] first = {3, 7, 5, 8, 0, 0, 0, 0, 0, 0, 0, 0, 6 * 999 + 5, 0, 0};
        for (int what = 0; what < 15; what++) {
            due("count(" + what + ")", x.count(what), first[what]);
        }
        for (int motion = 4; motion >= 0; motion--) {
            x.speak(motion + 2, motion, 0);
            x.session(motion);
            due("fallen", x.count(5), 32 - (1 << motion));
            due("day", x.count(4), 5 - motion);
            due("kept", x.count(13), 128 - (4 << motion));
            due("slipped", x.count(14), 5 - motion);
            due("paid: the last man has 5", x.count(7), 5 + 9 * (4 - motion));
            due("coins", x.count(12), 6 * 999 - 9 * (4 - motion));
        }
        for (int motion = 0; motion < 5; motion++) {
            due("nobody is to speak on " + motion, x.motion(motion, 1), 0);
            due("it falls to none now", x.now(motion, -1), -2);
        }
        due("nobody speaks on anything", x.slipped(0, -1), 1);
        for (int man = 0; man < 7; man++) {
            x.swear(man, 1);
            due("sworn", x.count(6), (2 << man) - 1);
        }
        for (int slot = 2; slot >= 0; slot--) {
            x.hold(slot);
            x.hold(slot);
            due("slots", x.count(11), 3 - slot);
        }
        x.tell(0, 0);
        x.feed(0, 0, 0, 0, 0);
        due("told", x.count(10), 1);
        due("bytes", x.count(8), 20);
        due("things", x.count(9), 17);
        for (int what : new int[] {-2, -1, 15, 16, BIG, LOW}) {
            due("count(" + what + ")", x.count(what), -1);
        }
    }

    /** The 512th call answers as the first ones do. */
    private static void manyCalls() {
        WorseSenate x = new WorseSenate();
        // "man ", "a 0 ", "1 0 ", "0;mo", "tion"; " m 0", " 0 0", ";jur", "or j", " 0; ".
        x.feed(0x6d616e20, 0x61203020, 0x31203020, 0x303b6d6f, 0x74696f6e);
        x.feed(0x206d2030, 0x20302030, 0x3b6a7572, 0x6f72206a, 0x20303b20);
        int calls = 3;
        due("read", x.read(), 0);
        for (; calls < 500; calls++) {
            due("call " + calls, x.speak(0, calls % 2 - 1, 0), true);
        }
        due("things", x.count(9), 40);
        calls++;
        for (; calls < 511; calls++) {
            due("undo", x.undo(), true);
        }
        due("call 512", x.count(9), 30);
    }
}
