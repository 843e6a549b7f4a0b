/** A test of its own for each sentence of the document on a tape and a text that names an edge. */
public final class TextEdgesTest {
    private static final int BIG = Integer.MAX_VALUE;
    private static final int LOW = Integer.MIN_VALUE;
    private static final String[] WORDS = {"sides", "man", "motion", "juror", "argues", "marks", "fines", "seed", "if",
        "then", "else", "skill", "manner", "slip", "praise", "day", "good", "lean", "which", "sworn"};
    private static final String AN_IF = "if 1<2 then 3 else ";
    /** 399 tokens. */
    private static final String FULL = "sides 2;".repeat(133);

    private TextEdgesTest() {
    }

    public static void main(String[] args) {
        tapes();
        tokens();
        forms();
        numbers();
        places();
        rooms();
        senses();
        places5();
        changes();
        Check.end("TextEdgesTest");
    }

    private static void due(String call, long got, long want) {
        Check.due(call, got, want);
    }

    private static void due(String call, boolean got, boolean want) {
        Check.due(call, got, want);
    }

    private static void tapes() {
        Check.sentence("Nothing is told.", TextEdgesTest::nothingIsTold);
        Check.sentence("A TEXT has 2,000 bytes at most.", TextEdgesTest::longestText);
        Check.sentence("Twenty bytes, the highest of a first, come behind the tape: how many it has.",
            TextEdgesTest::twentyBytes);
        Check.sentence("NONE, and nothing comes, if it would have more than 2,000.", TextEdgesTest::fullTape);
        Check.sentence("The last n bytes of the tape go: how many it has.", TextEdgesTest::lastBytesGo);
        Check.sentence("NONE, and nothing goes, if it has not so many, or n is below 0.", TextEdgesTest::notSoMany);
        Check.sentence("The tape, which is empty then, is read: 0, or the number of its FAULT.",
            TextEdgesTest::emptyThen);
    }

    private static void nothingIsTold() {
        WorseSenate x = new WorseSenate();
        for (int what = 0; what <= 14; what++) {
            due("count(" + what + ")", x.count(what), what == 0 ? 2 : 0);
        }
        due("place", x.place(), -1);
        due("man", x.man(0, 0), -1);
        due("motion", x.motion(0, 0), -1);
        due("mark", x.mark(0, 0, false), -1);
        due("undo", x.undo(), false);
        for (int slot = 0; slot < 3; slot++) {
            due("restore", x.restore(slot), false);
        }
        due("forget", x.forget(), 0);
        due("back", x.back(1), -1);
    }

    private static void longestText() {
        String text = "seed 1;" + " ".repeat(1992) + "\n";
        WorseSenate x = new WorseSenate();
        Check.put(x, text);
        due("bytes", x.count(8), 2000);
        due("read", x.read(), 0);
        // The last byte belongs to it.
        Check.fault(" ".repeat(1999) + "?", 1, 1999);
        Check.fault(" ".repeat(1993) + "seed 1;", 0, -1);
        Check.fault(" ".repeat(1994) + "seed 1", 1, 2000);
        Check.fault(" ".repeat(1986) + "man a 2 1 0 0;", 5, 2000);
    }

    private static void twentyBytes() {
        WorseSenate x = new WorseSenate();
        // "seed", " 123", "4;ma", "n a ", "0 6 "; "0 7;", "juro", "r b ", "1;  ", "    ".
        due("feed", x.feed(0x73656564, 0x20313233, 0x343b6d61, 0x6e206120, 0x30203620), 20);
        due("feed more", x.feed(0x3020373b, 0x6a75726f, 0x72206220, 0x313b2020, 0x20202020), 40);
        due("read", x.read(), 0);
        due("coins", x.man(0, 3), 7);
        due("jurors", x.count(3), 1);
        // Each of the twenty, of whatever sign: the k-th alone is no blank.
        for (int k = 0; k < 20; k++) {
            int[] w = {0x20202020, 0x20202020, 0x20202020, 0x20202020, 0x20202020};
            w[k / 4] |= 0xff << 24 - 8 * (k % 4);
            due("feed", x.feed(w[0], w[1], w[2], w[3], w[4]), 20);
            due("read", x.read(), 1);
            due("place", x.place(), k);
        }
    }

    private static void fullTape() {
        WorseSenate x = new WorseSenate();
        int blanks = 0x20202020;
        for (int i = 1; i <= 100; i++) {
            due("feed", x.feed(blanks, blanks, blanks, blanks, blanks), 20 * i);
        }
        due("feed of a full one", x.feed(-1, -1, -1, -1, -1), -1);
        due("nothing comes", x.count(8), 2000);
        x.back(1);
        due("feed to 2019", x.feed(-1, -1, -1, -1, -1), -1);
        x.back(18);
        due("feed to 2001", x.feed(-1, -1, -1, -1, -1), -1);
        due("nothing comes", x.count(8), 1981);
        due("nothing of it is there", x.read(), 0);
        for (int i = 1; i <= 99; i++) {
            x.feed(blanks, blanks, blanks, blanks, blanks);
        }
        due("feed to 2000", x.feed(blanks, blanks, blanks, blanks, -1), 2000);
        due("read", x.read(), 1);
        due("place", x.place(), 1996);
    }

    private static void lastBytesGo() {
        WorseSenate x = new WorseSenate();
        Check.put(x, "seed 1; seed 22222;");
        due("back 0", x.back(0), 19);
        due("back", x.back(12), 7);
        due("read", x.read(), 0);
        Check.put(x, "seed 1; seed 22222;");
        due("back one too few", x.back(10), 9);
        due("read", x.read(), 1);
        due("place of the s that stays", x.place(), 8);
        Check.put(x, "seedseed");
        due("back four letters", x.back(4), 4);
        due("read", x.read(), 1);
        due("place: the text's end", x.place(), 4);
        Check.put(x, "seed 12345");
        due("back two digits", x.back(2), 8);
        due("read", x.read(), 1);
        due("place: the text's end", x.place(), 8);
        Check.put(x, "??");
        due("back all", x.back(2), 0);
        Check.put(x, "seed 1;");
        due("read what came then", x.read(), 0);
    }

    private static void notSoMany() {
        WorseSenate x = new WorseSenate();
        due("back of none", x.back(1), -1);
        due("back 0 of none", x.back(0), 0);
        Check.put(x, "seed 22;");
        due("one too many", x.back(9), -1);
        due("below 0", x.back(-1), -1);
        due("least", x.back(LOW), -1);
        due("most", x.back(BIG), -1);
        due("nothing goes", x.count(8), 8);
        due("just so many", x.back(8), 0);
    }

    private static void emptyThen() {
        WorseSenate x = new WorseSenate();
        due("read of nothing", x.read(), 0);
        Check.put(x, "man a 0 1 0 0;");
        due("read", x.read(), 0);
        due("empty", x.count(8), 0);
        due("feed from 0 on", x.feed(0x3f202020, 0, 0, 0, 0), 20);
        due("read with a fault", x.read(), 1);
        due("empty after a fault", x.count(8), 0);
        due("the one man is there", x.count(1), 1);
        due("read of nothing again", x.read(), 0);
        due("nobody is told in it", x.count(1), 0);
        // What a text with a fault left open is not open in the next one.
        String[] faulty = {"seed", "man a", "man a 0 1", "marks", "marks=", "marks=((((((1", "marks=if", "marks=if 1<2 then",
            "marks=" + AN_IF.repeat(4), "marks=((((((1)", "seed 1;x", FULL + "seed 1;"};
        for (String text : faulty) {
            Check.put(x, text);
            due("read() of " + text, x.read() > 0, true);
            Check.put(x, "marks=((((((1))))));seed 1;");
            due("read() after " + text, x.read(), 0);
        }
    }

    private static void tokens() {
        Check.sentence("with blanks (9, 10, 13, 32) between or not", TextEdgesTest::blanks);
        Check.sentence("TOKENS, the longest that can be", TextEdgesTest::longest);
        Check.sentence("letters a .. z, 8 at most", TextEdgesTest::lettersOfNames);
        Check.sentence("none of the words in quotes", TextEdgesTest::wordsAreNoNames);
        Check.sentence("INTS (1 to 4 digits)", TextEdgesTest::digits);
        Check.sentence("SIGNS ; = + - * / < ( ) .", TextEdgesTest::signs);
        Check.sentence("A longer one, all else, is no TOKEN.", TextEdgesTest::allElse);
    }

    private static void blanks() {
        due("none needed", Check.of("seed1;man\ta\n0\r1 0 0;marks=if good<1then 1else good;").count(1), 1);
        Check.of("sides3;seed0007;marks=good;");
        for (int b = 0; b < 256; b++) {
            // A digit makes a longer INT of it; of two ; the second one is wrong.
            boolean fine = b == 9 || b == 10 || b == 13 || b == 32 || b >= '0' && b <= '9';
            Check.fault("seed 1" + (char) b + ";", fine ? 0 : 1, fine ? -1 : b == ';' ? 7 : 6);
        }
    }

    private static void longest() {
        // A word that begins like another is one NAME, a number behind letters another token.
        due("names", Check.of("man mans 0 1 0 0;man ifs 0 1 0 0;juror thenelse 1;").count(1), 2);
        due("a name up to a digit", Check.of("man a0 1 0 0;").man(0, 0), 0);
        due("an int up to a letter", Check.of("marks=if 1<2then 3else 4;").count(0), 2);
        Check.fault("sidesseed 1;", 1, 0);
        Check.fault("seed 1 2;", 1, 7);
        Check.of("seed 12;");
        Check.fault("manx 0 1 0 0;", 1, 0);
    }

    private static void lettersOfNames() {
        Check.of("man a 0 1 0 0;");
        Check.of("man z 0 1 0 0;");
        Check.of("man azazazaz 0 1 0 0;");
        Check.fault("man azazazaza 0 1 0 0;", 1, 4);
        Check.fault("man azazazazazazazazazazaz 0 1 0 0;", 1, 4);
        for (char c : new char[] {'`', '{', 'A', 'Z', '_', '\u00e9'}) {
            Check.fault("man " + c + " 0 1 0 0;", 1, 4);
            Check.fault("man a" + c + " 0 1 0 0;", 1, 5);
        }
        // Names that differ in the last letter alone, or in length alone, are two.
        due("two men", Check.of("man abcdefgh 0 1 0 0;man abcdefgi 0 1 0 0;").count(1), 2);
        due("two others", Check.of("man a 0 1 0 0;man aa 0 1 0 0;").count(1), 2);
    }

    private static void wordsAreNoNames() {
        for (String word : WORDS) {
            Check.fault("man " + word + " 0 1 0 0;", 1, 4);
            Check.fault("motion " + word + " 0 1 0;", 1, 7);
            Check.fault("juror " + word + " 0;", 1, 6);
            Check.of("man " + word + "x 0 1 0 0;");
            String shorter = word.substring(0, word.length() - 1);
            boolean isWord = false;
            for (String other : WORDS) {
                isWord |= other.equals(shorter);
            }
            if (!isWord) {
                Check.of("man " + shorter + " 0 1 0 0;");
            }
        }
        Check.of("man int 0 1 0 0;man name 0 1 0 0;man law 0 1 0 0;man tell 0 1 0 0;man text 0 1 0 0;");
    }

    private static void digits() {
        due("one digit", Check.of("man a 0 1 0 7;").man(0, 3), 7);
        due("four digits", Check.of("man a 0 1 0 0907;").man(0, 3), 907);
        due("four digits of a law", Check.of("man a 0 1 0 0;argues=9999-9909;").argues(0, 0, false), 90);
        due("nought", Check.of("man a 0 1 0 0000;").man(0, 3), 0);
        Check.fault("man a 0 1 0 00907;", 1, 12);
        Check.fault("man a 0 1 0 ;", 1, 12);
        Check.fault("marks=00001;", 1, 6);
        Check.fault("seed " + "0".repeat(40) + ";", 1, 5);
        Check.fault("seed 1/;", 1, 6);
        Check.fault("seed 1:;", 1, 6);
    }

    private static void signs() {
        Check.of("marks=if(1+2)*3/1-1<4 then 1 else 2;");
        for (char c = 33; c < 127; c++) {
            boolean goesOn = "+-*/".indexOf(c) >= 0;
            boolean isOther = c >= '0' && c <= '9';
            Check.fault("marks=1" + c + "1;", goesOn || isOther ? 0 : 1, goesOn || isOther ? -1 : c == ';' ? 8 : 7);
        }
        Check.fault("seed 1.", 1, 6);
    }

    private static void allElse() {
        Check.fault("abcdefghi", 1, 0);
        Check.fault("  12345", 1, 2);
        for (int b : new int[] {0, 1, 2, 3, 8, 11, 12, 14, 31, 33, 127, 128, 160, 187, 255}) {
            Check.fault("" + (char) b, 1, 0);
            Check.fault("seed 1;" + (char) b, 1, 7);
            Check.fault("seed " + (char) b + ";", 1, 5);
            Check.fault("juror " + (char) b + " 1;", 1, 6);
            Check.fault("marks = 1 " + (char) b + ";", 1, 10);
        }
    }

    private static void forms() {
        Check.sentence("text: {TELL}.", TextEdgesTest::noTell);
        Check.sentence("TELL: 'sides' INT ';' | 'man' NAME INT INT INT INT ';' | 'motion' NAME INT INT INT ';' | "
            + "'juror' NAME INT ';' | ('argues' | 'marks' | 'fines') LAW ';' | 'seed' INT ';'.", TextEdgesTest::tells);
        Check.sentence("LAW: '=' {'if' E '<' E 'then' E 'else'} E.", TextEdgesTest::lawForms);
        Check.sentence("E: PART {('+' | '-') PART}.", TextEdgesTest::sums);
        Check.sentence("PART: UNIT {('*' | '/') UNIT}.", TextEdgesTest::products);
        Check.sentence("UNIT: INT | VAR | '(' E ')'.", TextEdgesTest::units);
        Check.sentence("VAR: 'skill' | 'manner' | 'slip' | 'praise' | 'day' | 'good' | 'lean' | 'which' | 'sworn'.",
            TextEdgesTest::vars);
    }

    private static void noTell() {
        Check.fault("", 0, -1);
        Check.fault(" \t\r\n", 0, -1);
        Check.fault("seed 1;seed 2;seed 3;", 0, -1);
        Check.fault(";", 1, 0);
        Check.fault("seed 1;;", 1, 7);
    }

    /** A TELL token by token: as it is, with any one left out, with its last one twice. */
    private static void tells() {
        String[] all = {"sides 2 ;", "man a 0 1 0 0 ;", "motion a 0 0 0 ;", "juror a 0 ;", "argues = 1 ;",
            "marks = 1 ;", "fines = 1 ;", "seed 1 ;"};
        for (String tell : all) {
            Check.of(tell);
            String[] parts = tell.split(" ");
            for (int left = 0; left < parts.length; left++) {
                StringBuilder s = new StringBuilder();
                for (int i = 0; i < parts.length; i++) {
                    s.append(i == left ? "" : parts[i] + " ");
                }
                WorseSenate x = new WorseSenate();
                Check.put(x, s.toString());
                due("read() of " + s, x.read(), 1);
            }
            Check.fault(tell.substring(0, tell.length() - 1), 1, tell.length() - 1);
            Check.fault(tell.substring(0, tell.length() - 1) + "1;", 1, tell.length() - 1);
        }
        Check.fault("sides a;", 1, 6);
        Check.fault("seed a;", 1, 5);
        Check.fault("man 1 0 1 0 0;", 1, 4);
        Check.fault("man a b 1 0 0;", 1, 6);
        Check.fault("motion a 0 0 x;", 1, 13);
        Check.fault("juror 1 1;", 1, 6);
    }

    private static void lawForms() {
        Check.of("marks=1;");
        Check.of("marks=if 1<2 then 3 else 4;");
        Check.of("marks=" + AN_IF.repeat(2) + "4;");
        Check.fault("marks 1;", 1, 6);
        Check.fault("marks=;", 1, 6);
        Check.fault("marks=if;", 1, 8);
        Check.fault("marks=if 1;", 1, 10);
        Check.fault("marks=if 1<;", 1, 11);
        Check.fault("marks=if <2 then 3 else 4;", 1, 9);
        Check.fault("marks=if 1<2;", 1, 12);
        Check.fault("marks=if 1<2 then;", 1, 17);
        Check.fault("marks=if 1<2 then else 4;", 1, 18);
        Check.fault("marks=if 1<2 then 3;", 1, 19);
        Check.fault("marks=if 1<2 then 3 else;", 1, 24);
        Check.fault("marks=if 1<2 then 3 else 4 else 5;", 1, 27);
        Check.fault("marks=1<2;", 1, 7);
        Check.fault("marks=if 1<2<3 then 4 else 5;", 1, 12);
        Check.fault("marks=if 1<2 then if 1<2 then 3 else 4 else 5;", 1, 18);
        Check.fault("marks=(if 1<2 then 3 else 4);", 1, 7);
    }

    private static void sums() {
        Check.of("marks=1+2-3+4;");
        Check.fault("marks=+1;", 1, 6);
        Check.fault("marks=-1;", 1, 6);
        Check.fault("marks=1+;", 1, 8);
        Check.fault("marks=1--1;", 1, 8);
        Check.fault("marks=1 1;", 1, 8);
    }

    private static void products() {
        Check.of("marks=1*2/3*4;");
        Check.fault("marks=*1;", 1, 6);
        Check.fault("marks=1*;", 1, 8);
        Check.fault("marks=1/*1;", 1, 8);
        Check.fault("marks=1*-1;", 1, 8);
    }

    private static void vars() {
        for (String var : WORDS) {
            boolean isVar = " skill manner slip praise day good lean which sworn ".contains(" " + var + " ");
            for (String law : new String[] {"argues", "marks", "fines"}) {
                Check.fault(law + "=1+" + var + ";", isVar ? 0 : 1, isVar ? -1 : law.length() + 3);
            }
        }
        Check.fault("marks=coins;", 1, 6);
        Check.fault("marks=goods;", 1, 6);
        Check.fault("marks=goo;", 1, 6);
    }

    private static void units() {
        Check.of("marks=(1);");
        Check.fault("marks=();", 1, 7);
        Check.fault("marks=(1;", 1, 8);
        Check.fault("marks=1);", 1, 7);
        Check.fault("marks=(1));", 1, 9);
        Check.fault("marks=x;", 1, 6);
        Check.fault("marks=1(2);", 1, 7);
        Check.fault("marks=(1)2;", 1, 9);
        Check.fault("marks=(1<2);", 1, 8);
    }

    private static void numbers() {
        Check.sentence("SIDES 2 .. 3 (2; the last one).", TextEdgesTest::sides);
        Check.sentence("MEN, 7 at most (a NAME, SIDE 0 .. 2, SKILL 1 .. 9, SLIP 0 .. 10: in how many of ten speeches "
            + "sense slips out, COINS 0 .. 999)", TextEdgesTest::men);
        Check.sentence("MOTIONS, 5 at most (a NAME, WORTH to SIDES 0, 1, 2, if it FALLS TO that SIDE: 0 .. 99 each)",
            TextEdgesTest::motions);
        Check.sentence("JURORS, 8 at most (a NAME, the SIDE to which they LEAN 0 .. 2)", TextEdgesTest::jurors);
        Check.sentence("numbered each from 0 on as they stand.", TextEdgesTest::numbered);
        Check.sentence("LAWS: ARGUES (skill), MARKS (good), FINES (0), if not told; the last one.",
            TextEdgesTest::lawsNotTold);
        Check.sentence("SEED 0 .. 9999 (0; the last one).", TextEdgesTest::seeds);
    }

    private static void sides() {
        due("not told", Check.of("").count(0), 2);
        due("two", Check.of("sides 2;").count(0), 2);
        due("three", Check.of("sides 3;").count(0), 3);
        due("the last one", Check.of("sides 3;sides 2;").count(0), 2);
        due("the last one: three", Check.of("sides 2;man a 2 1 0 0;sides 3;").count(0), 3);
        Check.fault("sides 1;", 5, 6);
        Check.fault("sides 0;", 5, 6);
        Check.fault("sides 4;", 5, 6);
        Check.fault("sides 9999;", 5, 6);
        // Each must be so, not the last alone.
        Check.fault("sides 1;sides 2;", 5, 6);
        Check.fault("sides 3;sides 4;", 5, 14);
        due("not told in the next text", readAgain("sides 3;", "").count(0), 2);
    }

    private static WorseSenate readAgain(String first, String second) {
        WorseSenate x = Check.of(first);
        Check.put(x, second);
        due("read() of " + second, x.read(), 0);
        return x;
    }

    private static String some(String head, int n, String tail) {
        StringBuilder s = new StringBuilder();
        for (int i = 0; i < n; i++) {
            s.append(head).append((char) ('a' + i)).append(tail);
        }
        return s.toString();
    }

    private static void men() {
        String seven = some("man ", 7, " 0 1 0 0;");
        due("seven", Check.of(seven).count(1), 7);
        due("the seventh", Check.of(seven).man(6, 0), 0);
        due("no eighth", Check.of(seven).man(7, 0), -1);
        Check.fault(seven + "man x 0 1 0 0;", 2, seven.length());
        WorseSenate least = Check.of("man a 0 1 0 0;");
        due("least skill", least.argues(0, 0, false), 1);
        due("least coins", least.man(0, 3), 0);
        WorseSenate most = Check.of("sides 3;man a 2 9 10 999;");
        due("greatest side", most.man(0, 0), 2);
        due("greatest skill", most.argues(0, 0, false), 9);
        due("most coins", most.man(0, 3), 999);
        Check.fault("sides 3;man a 3 1 0 0;", 5, 14);
        Check.fault("man a 0 0 0 0;", 5, 8);
        Check.fault("man a 0 10 0 0;", 5, 8);
        Check.fault("man a 0 1 11 0;", 5, 10);
        Check.fault("man a 0 1 0 1000;", 5, 12);
    }

    private static void motions() {
        String five = some("motion ", 5, " 1 2 3;");
        due("five", Check.of(five).count(2), 5);
        due("the fifth", Check.of(five).motion(4, 4), 3);
        due("no sixth", Check.of(five).motion(5, 0), -1);
        Check.fault(five + "motion x 0 0 0;", 2, five.length());
        WorseSenate x = Check.of("motion a 0 99 0;motion b 99 0 99;");
        for (int side = 0; side < 3; side++) {
            due("worth of a", x.motion(0, 2 + side), side == 1 ? 99 : 0);
            due("worth of b", x.motion(1, 2 + side), side == 1 ? 0 : 99);
        }
        Check.fault("motion a 100 0 0;", 5, 9);
        Check.fault("motion a 0 100 0;", 5, 11);
        Check.fault("motion a 0 0 100;", 5, 13);
    }

    private static void jurors() {
        String eight = some("juror ", 8, " 1;") + "man x 0 9 0 0;motion m 0 0 0;";
        WorseSenate x = Check.of(eight);
        due("eight", x.count(3), 8);
        x.speak(0, 0, 0);
        due("the eighth marks", x.mark(7, 0, false), 9);
        due("no ninth", x.mark(8, 0, false), -1);
        due("all", x.sum(0, false), 72);
        Check.fault(eight + "juror y 0;", 2, eight.length());
        x = Check.of("sides 3;juror a 0;juror b 1;juror c 2;man x 1 1 0 0;motion m 0 0 0;marks=good+lean;");
        x.speak(0, 0, 0);
        for (int juror = 0; juror < 3; juror++) {
            due("leans", x.mark(juror, 0, false), juror == 2 ? 2 : 1);
        }
        Check.fault("sides 3;juror a 3;", 5, 16);
    }

    private static void numbered() {
        WorseSenate x = Check.of("motion m 1 0 0;man c 1 3 0 3;juror y 1;man a 0 1 0 1;motion n 2 0 0;juror x 0;"
            + "man b 1 2 0 2;marks=good+lean;");
        int[] coins = {3, 1, 2};
        for (int man = 0; man < 3; man++) {
            due("coins of " + man, x.man(man, 3), coins[man]);
            due("skill of " + man, x.argues(man, 0, false), coins[man]);
        }
        due("worth of 0", x.motion(0, 2), 1);
        due("worth of 1", x.motion(1, 2), 2);
        x.speak(1, 0, 0);
        due("juror 0 leans to 1", x.mark(0, 1, false), 2);
        due("juror 1 leans to 0", x.mark(1, 1, false), 1);
    }

    private static void lawsNotTold() {
        String text = "man a 0 6 0 9;motion m 0 0 0;juror j 1;";
        WorseSenate x = Check.of(text);
        x.speak(0, 0, 3);
        due("ARGUES", x.argues(0, 3, true), 6);
        due("MARKS", x.mark(0, 0, true), 6);
        due("FINES", x.fine(0, true), 0);
        x = Check.of(text + "argues=7;marks=3;fines=2;marks=5;fines=4;argues=8;");
        x.speak(0, 0, 0);
        due("the last ARGUES", x.argues(0, 0, false), 8);
        due("the last MARKS", x.mark(0, 0, false), 5);
        due("the last FINES", x.fine(0, false), 4);
        x = readAgain(text + "argues=7;marks=3;fines=2;", text);
        x.speak(0, 0, 0);
        due("not told in the next text: ARGUES", x.argues(0, 0, false), 6);
        due("not told in the next text: MARKS", x.mark(0, 0, false), 6);
        due("not told in the next text: FINES", x.fine(0, false), 0);
    }

    /** Whether man a slips by a seed, who does so where his LOT is less than slip. */
    private static int slips(String seeds, int slip) {
        WorseSenate x = Check.of("man a 0 1 " + slip + " 0;motion m 0 0 0;juror j 0;" + seeds);
        x.speak(0, 0, 0);
        due("session", x.session(0), 1);
        return x.man(0, 9);
    }

    private static void seeds() {
        // LOT 10 of man 0 on day 0: 9 by seed 0, 4 by 1, 0 by 7, 5 by 9999.
        due("not told: 0", slips("", 9), 0);
        due("not told: 0, in ten", slips("", 10), 1);
        due("0", slips("seed 0;", 9), 0);
        due("1", slips("seed 1;", 5), 1);
        due("1, less", slips("seed 1;", 4), 0);
        due("9999", slips("seed 9999;", 6), 1);
        due("9999, less", slips("seed 9999;", 5), 0);
        due("the last one", slips("seed 7;seed 9999;", 5), 0);
        due("the last one: 7", slips("seed 9999;seed 7;", 1), 1);
        due("0007", slips("seed 0007;", 1), 1);
        Check.fault("seed 10000;", 1, 5);
        WorseSenate x = readAgain("seed 7;", "man a 0 1 9 0;motion m 0 0 0;juror j 0;");
        x.speak(0, 0, 0);
        x.session(0);
        due("not told in the next text: 0", x.man(0, 9), 0);
    }

    private static void places() {
        Check.sentence("FAULTS of a text, the first by its place (a byte; the text's end: its length)",
            TextEdgesTest::firstPlace);
        Check.sentence("of one place the least", TextEdgesTest::leastOfOnePlace);
        Check.sentence("1 SYNTAX: a TOKEN, or what is none, with which no text goes on.", TextEdgesTest::syntax);
    }

    private static void firstPlace() {
        Check.fault("x", 1, 0);
        Check.fault("seed", 1, 4);
        Check.fault("seed \n", 1, 6);
        Check.fault("seed x;seed y;", 1, 5);
        String men = some("man ", 7, " 0 1 0 0;");
        // Room ahead of form, and form ahead of room.
        Check.fault(men + "man x 0 1 0;", 2, men.length());
        Check.fault(men + "seed x;man y", 1, men.length() + 5);
        Check.fault("marks=(((((((1)));", 2, 12);
        // Of the third and fifth likewise.
        Check.fault("man a 0 1 0 0;man a 0 1 0 0;seed 1;sides 4;", 3, 18);
        Check.fault("sides 4;man a 0 1 0 0;man a 0 1 0 0;", 5, 6);
        Check.fault("man a 0 1 0 0;man b 0 0 11 0;man a 0 1 0 0;", 5, 22);
        Check.fault("man a 2 1 0 0;man b 0 1 0 1000;", 5, 26);
        Check.fault("man a 2 1 0 0;juror a 0;", 3, 20);
    }

    private static void leastOfOnePlace() {
        // The 401st token, with which no text goes on; and with which one would.
        Check.fault(FULL + "sides ;", 1, FULL.length() + 6);
        Check.fault(FULL + "sides 2;", 2, FULL.length() + 6);
        Check.fault(FULL + "sides ?", 1, FULL.length() + 6);
        Check.fault(FULL + "sides 22222", 1, FULL.length() + 6);
        // The text's end is no token.
        Check.fault(FULL + "sides", 1, FULL.length() + 5);
    }

    private static void syntax() {
        Check.fault("seed 1;man", 1, 10);
        Check.fault("seed 1;a", 1, 7);
        Check.fault("seed 1;if", 1, 7);
        Check.fault("seed 1;1", 1, 7);
        Check.fault("seed 1;=", 1, 7);
        Check.fault("seed 1;$", 1, 7);
        Check.fault("seed 1;abcdefghi", 1, 7);
        Check.fault("seed 1;good", 1, 7);
        Check.fault("seed =1;", 1, 5);
    }

    private static void rooms() {
        Check.sentence("2 ROOM: a 401st TOKEN", TextEdgesTest::token401);
        Check.sentence("one more of a sort than told (at its first TOKEN)", TextEdgesTest::oneMore);
        Check.sentence("a 5th if of a LAW (at it)", TextEdgesTest::fifthIf);
        Check.sentence("a 7th ( within one another (at it).", TextEdgesTest::seventhOpen);
    }

    private static void token401() {
        Check.fault("fines=" + "1+".repeat(198) + "1;", 0, -1);
        Check.fault("fines=" + "1+".repeat(198) + "1; \n", 0, -1);
        Check.fault("fines=" + "1+".repeat(198) + "1; seed", 2, 6 + 396 + 3);
        Check.fault("fines=" + "1+".repeat(199) + "1;", 2, 6 + 398);
        Check.fault(FULL, 0, -1);
        // Of the 400 the last ones are not lost.
        WorseSenate x = Check.of("seed 1;".repeat(131) + "man a 0 7 0 5;");
        due("the last TELL of 400", x.man(0, 3), 5);
        x = Check.of("man a 0 7 0 5;" + "seed 1;".repeat(127) + "fines=1;fines=2;argues=42;");
        due("the last law of 400", x.argues(0, 0, false), 42);
        // 14 of 400 are told of men, all others of the law.
        x = Check.of("man a 0 1 0 0;man b 0 1 0 0;argues=" + "1+".repeat(190) + "skill-140;");
        due("a law that fills it", x.argues(0, 0, false), 190 + 1 - 140);
        x = Check.of("man a 0 1 0 0;argues=if 2<2 then 1 else " + "1+".repeat(190) + "skill-99;");
        due("a longer one", x.argues(0, 0, false), 92);
        // Text after text, each as full.
        x = new WorseSenate();
        for (int i = 0; i < 5; i++) {
            Check.put(x, "man a 0 1 0 0;argues=if 1<2 then " + "1-".repeat(190) + "skill+2" + i + "0 else 1;");
            due("full again", x.read(), 0);
            due("its law", x.argues(0, 0, false), 1 - 189 - 1 + 200 + 10 * i);
        }
    }

    private static void oneMore() {
        String men = some("man ", 7, " 0 1 0 0;");
        String motions = some("motion ", 5, " 0 0 0;");
        String jurors = some("juror ", 8, " 0;");
        Check.fault(men + "\nman", 2, men.length() + 1);
        Check.fault(men + " man 1", 2, men.length() + 1);
        Check.fault(motions + " motion", 2, motions.length() + 1);
        Check.fault(jurors + " juror", 2, jurors.length() + 1);
        // Names told twice are seen only where there is room.
        Check.fault(men + "man a 0 1 0 0;", 2, men.length());
        // Sides, seed and laws may be told as often as there are tokens.
        Check.of("seed 1;".repeat(133));
        Check.of("marks=1;".repeat(100));
        Check.of("argues=1;".repeat(33) + "fines=1;".repeat(33));
        // A text begins anew.
        WorseSenate y = Check.of(FULL);
        for (int i = 0; i < 3; i++) {
            Check.put(y, FULL);
            due("sides as often again", y.read(), 0);
        }
        WorseSenate x = readAgain(men, men);
        due("seven again", x.count(1), 7);
    }

    private static void fifthIf() {
        for (String law : new String[] {"argues", "marks", "fines"}) {
            Check.fault(law + "=" + AN_IF.repeat(4) + "1;", 0, -1);
            Check.fault(law + "=" + AN_IF.repeat(5) + "1;", 2, law.length() + 1 + 4 * AN_IF.length());
            Check.fault(law + "=" + AN_IF.repeat(4) + "if", 2, law.length() + 1 + 4 * AN_IF.length());
        }
        // Each law has four of its own.
        Check.of("argues=" + AN_IF.repeat(4) + "1;argues=" + AN_IF.repeat(4) + "1;marks=" + AN_IF.repeat(4) + "1;");
        WorseSenate x = Check.of("man a 0 7 0 0;argues=if skill<1 then 1 else if skill<2 then 2 else if skill<3 then 3 "
            + "else if skill<8 then 4 else 5;");
        due("the fourth holds", x.argues(0, 0, false), 4);
        x = Check.of("man a 0 9 0 0;argues=if skill<1 then 1 else if skill<2 then 2 else if skill<3 then 3 "
            + "else if skill<8 then 4 else 5;");
        due("none holds", x.argues(0, 0, false), 5);
    }

    private static void seventhOpen() {
        WorseSenate x = Check.of("man a 0 7 0 0;argues=1+(2*(3+(4*(5-(6-(2)))))) ;");
        due("six", x.argues(0, 0, false), 1 + 2 * (3 + 4 * (5 - (6 - 2))));
        Check.fault("marks=(((((((1)))))));", 2, 12);
        Check.fault("marks=(((((((", 2, 12);
        Check.fault("marks=((((((", 1, 12);
        // Those that are closed do not count, in an E or in a law.
        Check.of("marks=((((((1))))))+((((((1))))));marks=((((((1))))));");
        Check.of("marks=if((((((1))))))<((((((1))))))then((((((1))))))else((((((1))))));");
        Check.fault("marks=if((((((1))))))<(((((((1", 2, 28);
        Check.fault("marks=((((((1)+((1", 2, 16);
    }

    private static void senses() {
        Check.sentence("If there is none, likewise", TextEdgesTest::ifThereIsNone);
        Check.sentence("3 TWICE: a NAME told already (all together).", TextEdgesTest::twice);
        Check.sentence("5 WRONG (at the INT): a number not as told above", TextEdgesTest::wrongInt);
        Check.sentence("(at the text's end) a MAN is of a SIDE, or a JUROR leans to one, that there is not.",
            TextEdgesTest::wrongSide);
    }

    private static void ifThereIsNone() {
        Check.fault("sides 9;x", 1, 8);
        Check.fault("sides 9;seed", 1, 12);
        Check.fault("man a 0 1 0 0;man a 0 1 0 0;seed 12345;", 1, 33);
        Check.fault("sides 9;marks=(((((((1", 2, 20);
        Check.fault("man a 0 0 0 0;" + "seed 1;".repeat(131) + "seed", 2, 14 + 7 * 131);
        Check.fault("man a 0 0 0 0;" + "seed 1;".repeat(131), 5, 8);
    }

    private static void twice() {
        String[] tells = {"man a 0 1 0 0;", "motion a 0 0 0;", "juror a 0;"};
        int[] names = {4, 7, 6};
        for (String first : tells) {
            for (int i = 0; i < 3; i++) {
                Check.fault(first + tells[i], 3, first.length() + names[i]);
            }
        }
        Check.fault("man abcdefgh 0 1 0 0;juror b 0;motion abcdefgh 0 0 0;", 3, 38);
        Check.fault("man a 0 1 0 0;man b 0 1 0 0;man b 0 1 0 0;man a 0 1 0 0;", 3, 32);
        // A name of the text ahead, or of one with a fault, was not told in this one.
        WorseSenate x = readAgain("man a 0 1 0 0;", "man a 0 1 0 0;");
        due("again", x.count(1), 1);
        Check.put(x, "man b 0 1 0 0;x");
        due("a fault", x.read(), 1);
        Check.put(x, "man b 0 1 0 0;");
        due("none", x.read(), 0);
    }

    private static void wrongInt() {
        // The INT's first byte, also where it has zeros ahead.
        Check.fault("sides 0004;", 5, 6);
        Check.fault("man a 0 0000 0 0;", 5, 8);
        Check.fault("man a 9999 1 0 0;", 5, 6);
        Check.fault("man a 0 9999 0 0;", 5, 8);
        Check.fault("man a 0 1 9999 0;", 5, 10);
        Check.fault("man a 0 1 0 9999;", 5, 12);
        Check.fault("man a 3 0 11 1000;", 5, 6);
        Check.fault("motion a 99 99 9999;", 5, 15);
        Check.fault("juror a 9999;", 5, 8);
        // An INT of a LAW is never wrong.
        Check.of("argues=9999;marks=0000;fines=9999*9999;");
    }

    private static void wrongSide() {
        Check.fault("man a 2 1 0 0;", 5, 14);
        Check.fault("juror a 2;", 5, 10);
        Check.fault("man a 2 1 0 0; \n", 5, 16);
        Check.fault("sides 3;man a 2 1 0 0;sides 2;", 5, 30);
        Check.fault("sides 3;juror a 2;sides 2;seed 1;", 5, 33);
        Check.fault("juror b 0;juror a 2;juror c 0;", 5, 30);
        Check.of("man a 2 1 0 0;juror b 2;sides 3;");
        Check.of("man a 1 1 0 0;juror b 1;sides 2;");
        // The side of a motion's worth may not be there.
        due("worth to a side that there is not", Check.of("motion m 1 2 3;").motion(0, 4), 3);
        WorseSenate x = Check.of("sides 3;");
        Check.put(x, "man a 2 1 0 0;");
        due("sides of the text ahead do not count", x.read(), 5);
    }

    private static void places5() {
        Check.sentence("The byte of the latest read()'s FAULT; NONE without.", TextEdgesTest::latestPlace);
    }

    private static void latestPlace() {
        WorseSenate x = new WorseSenate();
        due("ahead of all", x.place(), -1);
        Check.put(x, "seed 1;?");
        due("nothing read", x.place(), -1);
        x.read();
        due("a fault", x.place(), 7);
        due("asked again", x.place(), 7);
        Check.put(x, "sides 9;");
        due("not read yet", x.place(), 7);
        x.read();
        due("another", x.place(), 6);
        x.read();
        due("none", x.place(), -1);
        Check.put(x, "?");
        x.read();
        due("byte 0", x.place(), 0);
    }

    private static void changes() {
        Check.sentence("A text with a FAULT changes nothing but the tape", TextEdgesTest::faultChangesNothing);
        Check.sentence("else it is in place of the one ahead: day 0, nobody sworn, nobody speaks, no MOTION has fallen, "
            + "no SPEECH is kept; nothing can be undone, nothing is TOLD, SLOTS hold nothing.",
            TextEdgesTest::inItsPlace);
    }

    /** Somebody is sworn, somebody speaks, a motion has fallen, a speech is kept and read, one was told, one held. */
    private static WorseSenate busy() {
        WorseSenate x = Check.of(BUSY);
        x.speak(0, 0, 0);
        x.swear(1, 0);
        x.hold(1);
        x.session(0);
        x.speak(1, 1, 2);
        x.reads(1, 0);
        x.praise(1);
        x.tell(0, 5);
        return x;
    }

    private static final String BUSY = "man a 0 5 10 9;man b 1 4 0 9;motion m 1 2 3;motion n 4 5 6;juror j 0;juror k 1;"
        + "argues=skill+slip;fines=3;seed 5;marks=good+lean;sides 2;";

    private static void faultChangesNothing() {
        String men = some("man ", 8, " 0 1 0 0;");
        String[] texts = {"sides 3;man x 2 9 9 99;argues=0;marks=1;fines=9;seed 1;x", men, "motion q 0 0 0;juror q 1;",
            "sides 3;seed 4;argues=0;marks=1;juror q 0;man z 0 0 0 0;", "man z 2 1 0 0;marks=1;"};
        int[] faults = {1, 2, 3, 5, 5};
        for (int i = 0; i < texts.length; i++) {
            WorseSenate x = busy();
            int[] before = Check.all(x);
            Check.put(x, texts[i]);
            due("read", x.read(), faults[i]);
            Check.same("fault " + faults[i], x, before);
            // GOOD 6, by k, who leans to 1, one more: 7, a joke: 6.
            due("what b reads", x.sum(1, false), 12);
            due("the fine", x.fine(1, false), 3);
            due("what was told", x.slipped(1, -1), 0);
            due("a thing is undone", x.undo(), true);
            due("praise of b", x.man(1, 6), 0);
            due("a slot holds on", x.restore(1), true);
            due("day of it", x.count(4), 0);
            due("it speaks of it", x.motion(0, 1), 1);
        }
    }

    private static void inItsPlace() {
        WorseSenate x = busy();
        Check.put(x, "man p 1 2 0 4;motion o 7 8 9;juror q 0;");
        due("read", x.read(), 0);
        int[] counts = {2, 1, 1, 1, 0, 0, 0, 0, 0, 0, 0, 0, 4, 0, 0};
        for (int what = 0; what < 15; what++) {
            due("count(" + what + ")", x.count(what), counts[what]);
        }
        int[] p = {1, 0, 0, 4, -2, -2, 0, -2, -2, 0};
        for (int what = 0; what < 10; what++) {
            due("man(0, " + what + ")", x.man(0, what), p[what]);
        }
        due("no other man", x.man(1, 0), -1);
        int[] o = {-2, 0, 7, 8, 9};
        for (int what = 0; what < 5; what++) {
            due("motion(0, " + what + ")", x.motion(0, what), o[what]);
        }
        due("no other motion", x.motion(1, 0), -1);
        due("undo", x.undo(), false);
        for (int slot = 0; slot < 3; slot++) {
            due("restore", x.restore(slot), false);
        }
        due("told", x.forget(), 0);
        // The same text again begins anew too; what was read of somebody is read no longer.
        x = busy();
        Check.put(x, BUSY);
        due("read", x.read(), 0);
        due("coins of a", x.man(0, 3), 9);
        due("praise of b", x.man(1, 6), 0);
        due("b is of 1", x.man(1, 0), 1);
        due("b pleads for 0", x.man(1, 2), 0);
        x.speak(1, 1, 0);
        due("b reads nothing", x.man(1, 8), -2);
        due("b's own", x.sum(1, false), 9);
        x.speak(0, 0, 0);
        due("m can fall again", x.session(0), 1);
    }
}
