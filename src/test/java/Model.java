import java.nio.charset.StandardCharsets;
import java.util.ArrayDeque;
import java.util.ArrayList;
import java.util.Arrays;
import java.util.HashMap;
import java.util.HashSet;
import java.util.List;
import java.util.Map;
import java.util.Set;
import java.util.TreeSet;
import java.math.BigInteger;

/**
 * The document once more, in the slowest and plainest way: questions are answered by doing what they
 * ask on a copy. The program is compared with it.
 */
final class Model {
    static final Set<String> WORDS = new HashSet<>(Arrays.asList("sides", "man", "motion", "juror", "argues", "marks",
        "fines", "seed", "if", "then", "else", "skill", "manner", "slip", "praise", "day", "good", "lean", "which",
        "sworn"));
    static final Set<String> VARS = new HashSet<>(Arrays.asList("skill", "manner", "slip", "praise", "day", "good",
        "lean", "which", "sworn"));

    static final class Fault extends RuntimeException {
        private static final long serialVersionUID = 1L;
        final int kind;
        final int place;

        Fault(int kind, int place) {
            super(kind + " at " + place, null, false, false);
            this.kind = kind;
            this.place = place;
        }
    }

    static final class Zero extends RuntimeException {
        private static final long serialVersionUID = 1L;

        Zero() {
            super("by 0", null, false, false);
        }
    }

    interface Expr {
        int of(Map<String, Integer> vars);
    }

    static final class Man {
        int side;
        int skill;
        int slip;
        int coins;
        int left = -1;
        int topic = -2;
        int manner = -2;
        int praise = 0;
        int kept = -2;
        int reads = -2;
        int readGood = -1;
        int slips = 0;

        Man copy() {
            Man m = new Man();
            m.side = side;
            m.skill = skill;
            m.slip = slip;
            m.coins = coins;
            m.left = left;
            m.topic = topic;
            m.manner = manner;
            m.praise = praise;
            m.kept = kept;
            m.reads = reads;
            m.readGood = readGood;
            m.slips = slips;
            return m;
        }
    }

    /** What the text tells and nothing changes. */
    static final class Text {
        int sides = 2;
        int seed = 0;
        List<int[]> men = new ArrayList<>();
        List<int[]> motions = new ArrayList<>();
        List<Integer> jurors = new ArrayList<>();
        Expr argues = v -> v.get("skill");
        Expr marks = v -> v.get("good");
        Expr fines = v -> 0;
    }

    /** What goes on. */
    static final class World {
        final Text text;
        List<Man> men = new ArrayList<>();
        int[] fell;
        int day = 0;
        int paid = 0;

        World(Text text) {
            this.text = text;
            for (int[] told : text.men) {
                Man m = new Man();
                m.side = told[0];
                m.skill = told[1];
                m.slip = told[2];
                m.coins = told[3];
                men.add(m);
            }
            fell = new int[text.motions.size()];
            Arrays.fill(fell, -2);
        }

        World copy() {
            World w = new World(text);
            w.men.clear();
            for (Man m : men) {
                w.men.add(m.copy());
            }
            w.fell = fell.clone();
            w.day = day;
            w.paid = paid;
            return w;
        }

        int pleads(int man) {
            Man m = men.get(man);
            return m.left >= 0 ? m.left : (m.side + 1) % text.sides;
        }

        Map<String, Integer> vars(int man, boolean slip) {
            Man m = men.get(man);
            Map<String, Integer> v = new HashMap<>();
            for (String name : VARS) {
                v.put(name, 0);
            }
            v.put("skill", m.skill);
            v.put("manner", m.manner);
            v.put("slip", slip ? 1 : 0);
            v.put("day", day);
            v.put("sworn", m.left >= 0 ? 1 : 0);
            return v;
        }

        static int law(Expr e, Map<String, Integer> v, int low, int high) {
            int got;
            try {
                got = e.of(v);
            } catch (Zero z) {
                got = 0;
            }
            return got < low ? low : got > high ? high : got;
        }

        int good(int man, boolean slip) {
            Man m = men.get(man);
            if (m.reads >= 0) {
                return m.readGood;
            }
            Map<String, Integer> v = vars(man, slip);
            v.put("praise", m.praise);
            v.put("which", man);
            return law(text.argues, v, 0, 99);
        }

        int mark(int juror, int man, boolean slip, int good) {
            Man m = men.get(man);
            if (m.manner == 1) {
                return 4;
            }
            Map<String, Integer> v = vars(man, slip);
            v.put("praise", m.praise);
            v.put("good", good);
            v.put("lean", text.jurors.get(juror) == pleads(man) ? 1 : 0);
            v.put("which", juror);
            int mark = law(text.marks, v, 1, 9);
            if (m.manner == 2) {
                int[] joke = {0, 2, 2, 2, 4, 4, 6, 6, 8, 8};
                return joke[mark];
            }
            return mark;
        }

        int sum(int man, boolean slip) {
            return sumOf(man, slip, good(man, slip));
        }

        int sumOf(int man, boolean slip, int good) {
            int all = 0;
            for (int j = 0; j < text.jurors.size(); j++) {
                all += mark(j, man, slip, good);
            }
            return all;
        }

        int fine(int man, boolean slip) {
            Map<String, Integer> v = vars(man, slip);
            v.put("good", Math.floorDiv(sum(man, slip), text.jurors.size()));
            v.put("which", man);
            return Math.min(men.get(man).coins, law(text.fines, v, 0, 99));
        }

        List<Integer> speakers(int motion) {
            List<Integer> who = new ArrayList<>();
            for (int m = 0; m < men.size(); m++) {
                if (men.get(m).topic == motion) {
                    who.add(m);
                }
            }
            return who;
        }

        /** Means by sides as {above, below}; null: does not speak. */
        long[][] means(int motion, int slips, int jurors) {
            long[][] means = new long[3][];
            for (int m : speakers(motion)) {
                boolean slip = (slips >> m & 1) == 1;
                int good = good(m, slip);
                int s = pleads(m);
                if (means[s] == null) {
                    means[s] = new long[2];
                }
                for (int j = 0; j < text.jurors.size(); j++) {
                    if ((jurors >> j & 1) == 1) {
                        means[s][0] += mark(j, m, slip, good);
                    }
                }
                means[s][1]++;
            }
            return means;
        }

        int falls(int motion, int slips) {
            if (text.jurors.isEmpty() || speakers(motion).isEmpty()) {
                return -2;
            }
            long[][] means = means(motion, slips, 255);
            int best = -2;
            for (int s = 0; s < 3; s++) {
                if (means[s] != null && (best < 0 || means[s][0] * means[best][1] > means[best][0] * means[s][1])) {
                    best = s;
                }
            }
            return best;
        }

        int session(int motion, int seed) {
            int slips = 0;
            for (int m : speakers(motion)) {
                if (lot(10, seed, 16 * day + m) < men.get(m).slip) {
                    slips |= 1 << m;
                }
            }
            int side = falls(motion, slips);
            for (int m : speakers(motion)) {
                Man man = men.get(m);
                boolean slip = (slips >> m & 1) == 1;
                int fine = fine(m, slip);
                man.kept = good(m, slip);
                man.coins -= fine;
                paid += fine;
                man.slips += slip ? 1 : 0;
                man.praise = 0;
                silence(man);
            }
            fell[motion] = side;
            day++;
            return side;
        }

        static void silence(Man man) {
            man.topic = -2;
            man.manner = -2;
            man.reads = -2;
            man.readGood = -1;
        }

        static int lot(int n, int seed, int which) {
            int h = seed;
            for (int it : new int[] {65, which}) {
                h = (h ^ it) * 1103515245 + 12345;
                h = h ^ h >>> 15;
            }
            return (h >>> 1) % n;
        }

        long[] likely(int motion, int side) {
            List<Integer> who = speakers(motion);
            long above = 0;
            long below = 1;
            for (int i = 0; i < who.size(); i++) {
                below *= 10;
            }
            for (int set : subsets(who)) {
                long weight = 1;
                for (int m : who) {
                    weight *= (set >> m & 1) == 1 ? men.get(m).slip : 10 - men.get(m).slip;
                }
                if (falls(motion, set) == side) {
                    above += weight;
                }
            }
            long divisor = BigInteger.valueOf(above).gcd(BigInteger.valueOf(below)).longValue();
            return new long[] {above / divisor, below / divisor};
        }
    }

    /** All sets, the least bits first. */
    static TreeSet<Integer> subsets(List<Integer> who) {
        TreeSet<Integer> sets = new TreeSet<>();
        sets.add(0);
        for (int m : who) {
            for (int set : new ArrayList<>(sets)) {
                sets.add(set | 1 << m);
            }
        }
        return sets;
    }

    byte[] tape = new byte[0];
    int place = -1;
    Text text = new Text();
    World world = new World(text);
    ArrayDeque<World> done = new ArrayDeque<>();
    World[] slots = new World[3];
    List<int[]> told = new ArrayList<>();

    boolean isMan(int m) {
        return m >= 0 && m < text.men.size();
    }

    boolean isMotion(int m) {
        return m >= 0 && m < text.motions.size();
    }

    boolean isSide(int s) {
        return s >= 0 && s < text.sides;
    }

    void keep() {
        done.addLast(world.copy());
        if (done.size() > 40) {
            done.removeFirst();
        }
    }

    int feed(int a, int b, int c, int d, int e) {
        if (tape.length + 20 > 2000) {
            return -1;
        }
        int from = tape.length;
        tape = Arrays.copyOf(tape, from + 20);
        int[] words = {a, b, c, d, e};
        for (int i = 0; i < 20; i++) {
            tape[from + i] = (byte) (words[i / 4] >>> 24 - 8 * (i % 4));
        }
        return tape.length;
    }

    int back(int n) {
        if (n < 0 || n > tape.length) {
            return -1;
        }
        tape = Arrays.copyOf(tape, tape.length - n);
        return tape.length;
    }

    int read() {
        String s = new String(tape, StandardCharsets.ISO_8859_1);
        tape = new byte[0];
        try {
            Text read = new Parser(s).text();
            text = read;
            world = new World(text);
            done.clear();
            Arrays.fill(slots, null);
            told.clear();
            place = -1;
            return 0;
        } catch (Fault f) {
            place = f.place;
            return f.kind;
        }
    }

    int man(int man, int what) {
        if (!isMan(man) || what < 0 || what > 9) {
            return -1;
        }
        Man m = world.men.get(man);
        return new int[] {m.side, m.left >= 0 ? 1 : 0, world.pleads(man), m.coins, m.topic, m.manner, m.praise,
            m.kept, m.reads, m.slips}[what];
    }

    int motion(int motion, int what) {
        if (!isMotion(motion) || what < 0 || what > 4) {
            return -1;
        }
        if (what == 0) {
            return world.fell[motion];
        }
        return what == 1 ? bits(world.speakers(motion)) : text.motions.get(motion)[what - 2];
    }

    static int bits(List<Integer> who) {
        int bits = 0;
        for (int m : who) {
            bits |= 1 << m;
        }
        return bits;
    }

    int argues(int man, int manner, boolean slip) {
        if (!isMan(man) || manner < 0 || manner > 3) {
            return -1;
        }
        World w = world.copy();
        w.men.get(man).reads = -2;
        w.men.get(man).manner = manner;
        return w.good(man, slip);
    }

    int mark(int juror, int man, boolean slip) {
        if (!isMan(man) || juror < 0 || juror >= text.jurors.size()) {
            return -1;
        }
        return world.men.get(man).topic < 0 ? -2 : world.mark(juror, man, slip, world.good(man, slip));
    }

    int sum(int man, boolean slip) {
        if (!isMan(man)) {
            return -1;
        }
        return world.men.get(man).topic < 0 ? -2 : world.sum(man, slip);
    }

    boolean speak(int man, int motion, int manner) {
        if (!isMan(man)) {
            return false;
        }
        Man m = world.men.get(man);
        if (motion == -1) {
            if (m.topic < 0) {
                return false;
            }
            keep();
            World.silence(m);
            return true;
        }
        if (!isMotion(motion) || manner < 0 || manner > 3 || world.fell[motion] != -2
            || m.topic == motion && m.manner == manner) {
            return false;
        }
        keep();
        m.topic = motion;
        m.manner = manner;
        return true;
    }

    int praise(int man) {
        if (!isMan(man)) {
            return -1;
        }
        if (world.men.get(man).praise == 9) {
            return -2;
        }
        keep();
        return ++world.men.get(man).praise;
    }

    int reads(int man, int other) {
        if (!isMan(man) || !isMan(other) || man == other) {
            return -1;
        }
        Man m = world.men.get(man);
        Man o = world.men.get(other);
        if (m.topic < 0 || o.kept == -2 || m.reads == other || m.coins < o.kept) {
            return -2;
        }
        keep();
        m.coins -= o.kept;
        o.coins += o.kept;
        m.reads = other;
        m.readGood = o.kept;
        return m.coins;
    }

    boolean swear(int man, int side) {
        if (!isMan(man) || !isSide(side)) {
            return false;
        }
        Man m = world.men.get(man);
        if (m.left >= 0 || m.side == side) {
            return false;
        }
        keep();
        m.left = m.side;
        m.side = side;
        return true;
    }

    int session(int motion) {
        if (!isMotion(motion)) {
            return -1;
        }
        if (world.fell[motion] != -2 || world.speakers(motion).isEmpty() || text.jurors.isEmpty()) {
            return -2;
        }
        keep();
        return world.session(motion, text.seed);
    }

    boolean undo() {
        if (done.isEmpty()) {
            return false;
        }
        world = done.removeLast();
        return true;
    }

    int now(int motion, int side) {
        if (!isMotion(motion) || side != -1 && !isSide(side)) {
            return -1;
        }
        if (side == -1) {
            return world.falls(motion, 0);
        }
        int all = 0;
        for (int m : world.speakers(motion)) {
            all += world.pleads(m) == side ? world.sum(m, false) : 0;
        }
        return all;
    }

    int likely(int motion, int side, boolean below) {
        return !isMotion(motion) || !isSide(side) ? -1 : (int) world.likely(motion, side)[below ? 1 : 0];
    }

    int change(int motion, int side, int what) {
        if (!isMotion(motion) || !isSide(side) || what < 0 || what > 1) {
            return -1;
        }
        for (int n = 0; n <= 7; n++) {
            for (int set : subsets(world.speakers(motion))) {
                World w = world.copy();
                boolean may = Integer.bitCount(set) == n;
                for (int m = 0; m < 7; m++) {
                    if ((set >> m & 1) == 1) {
                        Man man = w.men.get(m);
                        may &= man.left < 0;
                        man.left = man.side;
                        man.side = (man.side + 1) % text.sides;
                    }
                }
                if (may && w.falls(motion, 0) == side) {
                    return what == 0 ? n : set;
                }
            }
        }
        return -2;
    }

    private int[] bestManners(int motion, int side) {
        List<Integer> who = choosers(motion, side);
        int[] best = null;
        double most = -1;
        int combos = (int) Math.pow(4, who.size());
        for (int c = 0; c < combos; c++) {
            int[] manners = new int[who.size()];
            int rest = c;
            for (int i = who.size() - 1; i >= 0; i--) {
                manners[i] = rest % 4;
                rest /= 4;
            }
            long[] chance = withManners(who, manners).likely(motion, side);
            double got = (double) chance[0] / chance[1];
            if (got > most + 1e-9) {
                most = got;
                best = manners;
            }
        }
        return best;
    }

    private World withManners(List<Integer> who, int[] manners) {
        World w = world.copy();
        for (int i = 0; i < who.size(); i++) {
            w.men.get(who.get(i)).manner = manners[i];
        }
        return w;
    }

    private List<Integer> choosers(int motion, int side) {
        List<Integer> who = new ArrayList<>();
        for (int m : world.speakers(motion)) {
            if (world.men.get(m).side == side && who.size() < 3) {
                who.add(m);
            }
        }
        return who;
    }

    int choose(int motion, int side, int i) {
        if (!isMotion(motion) || !isSide(side) || i < 0 || i >= choosers(motion, side).size()) {
            return -1;
        }
        return bestManners(motion, side)[i];
    }

    int chosen(int motion, int side, boolean below) {
        if (!isMotion(motion) || !isSide(side)) {
            return -1;
        }
        World w = withManners(choosers(motion, side), bestManners(motion, side));
        return (int) w.likely(motion, side)[below ? 1 : 0];
    }

    private int gain(int motion, int mumblers, int man) {
        World w = world.copy();
        for (int m : w.speakers(motion)) {
            if ((mumblers >> m & 1) == 1) {
                w.men.get(m).manner = 1;
            }
        }
        int side = w.men.get(man).side;
        return w.falls(motion, 0) == side ? text.motions.get(motion)[side] : 0;
    }

    int mumble(int motion, int i) {
        if (!isMotion(motion)) {
            return -1;
        }
        List<Integer> rests = new ArrayList<>();
        for (int set : subsets(world.speakers(motion))) {
            boolean rest = true;
            for (int m : world.speakers(motion)) {
                rest &= gain(motion, set, m) >= gain(motion, set ^ 1 << m, m);
            }
            if (rest) {
                rests.add(set);
            }
        }
        return pick(rests, i);
    }

    static int pick(List<Integer> from, int i) {
        return i == -1 ? from.size() : i >= 0 && i < from.size() ? from.get(i) : -1;
    }

    int jury(int motion, int n, int what) {
        if (!isMotion(motion) || n < 1 || n > 8 || what < 0 || what > 1) {
            return -1;
        }
        if (n > text.jurors.size() || world.speakers(motion).isEmpty()) {
            return -2;
        }
        int best = -1;
        long least = Long.MAX_VALUE;
        for (int set = 0; set < 1 << text.jurors.size(); set++) {
            if (Integer.bitCount(set) == n) {
                long most = Long.MIN_VALUE;
                long fewest = Long.MAX_VALUE;
                for (long[] mean : world.means(motion, 0, set)) {
                    if (mean != null) {
                        // 420 can be divided by each number of speeches there may be.
                        long scaled = mean[0] * 420 / mean[1];
                        most = Math.max(most, scaled);
                        fewest = Math.min(fewest, scaled);
                    }
                }
                if (most - fewest < least) {
                    least = most - fewest;
                    best = set;
                }
            }
        }
        return what == 0 ? best : (int) (100 * least / 420);
    }

    int say(int man, int sum) {
        if (!isMan(man) || sum < 0 || sum > 99) {
            return -1;
        }
        World w = world.copy();
        w.men.get(man).manner = 0;
        for (int good = 0; good <= 99; good++) {
            if (w.sumOf(man, false, good) >= sum) {
                return good;
            }
        }
        return -2;
    }

    int fine(int man, boolean slip) {
        if (!isMan(man)) {
            return -1;
        }
        return world.men.get(man).topic < 0 || text.jurors.isEmpty() ? -2 : world.fine(man, slip);
    }

    int ahead(int motion) {
        if (!isMotion(motion)) {
            return -1;
        }
        List<Long> scaled = new ArrayList<>();
        for (long[] mean : world.means(motion, 0, 255)) {
            if (mean != null) {
                scaled.add(mean[0] * 420 / mean[1]);
            }
        }
        if (scaled.size() < 2 || text.jurors.isEmpty()) {
            return -2;
        }
        scaled.sort(null);
        return (int) ((scaled.get(scaled.size() - 1) - scaled.get(scaled.size() - 2)) * 100 / 420);
    }

    int harsh(int motion, boolean kind) {
        if (!isMotion(motion)) {
            return -1;
        }
        int best = -2;
        int bestGiven = 0;
        for (int j = 0; j < text.jurors.size() && !world.speakers(motion).isEmpty(); j++) {
            int given = 0;
            for (int m : world.speakers(motion)) {
                given += mark(j, m, false);
            }
            if (best < 0 || kind && given > bestGiven || !kind && given < bestGiven) {
                best = j;
                bestGiven = given;
            }
        }
        return best;
    }

    int praiseFor(int motion, int side, int man) {
        if (!isMotion(motion) || !isSide(side) || !isMan(man)) {
            return -1;
        }
        if (world.men.get(man).topic != motion) {
            return -2;
        }
        World w = world.copy();
        for (int more = 0; w.men.get(man).praise <= 9; more++) {
            if (w.falls(motion, 0) == side) {
                return more;
            }
            w.men.get(man).praise++;
        }
        return -2;
    }

    int old(int man, int other) {
        if (!isMan(man) || !isMan(other) || man == other || world.men.get(man).topic < 0
            || world.men.get(other).kept == -2) {
            return -10000;
        }
        World w = world.copy();
        w.men.get(man).reads = other;
        w.men.get(man).readGood = w.men.get(other).kept;
        return w.sum(man, false) - world.sum(man, false);
    }

    int year(int side, int s) {
        if (!isSide(side) || s < 1 || s > 20) {
            return -1;
        }
        int worth = 0;
        for (int seed = text.seed; seed < text.seed + s; seed++) {
            World w = world.copy();
            for (int motion = 0; motion < text.motions.size(); motion++) {
                if (w.fell[motion] == -2 && !w.speakers(motion).isEmpty() && !text.jurors.isEmpty()
                    && w.session(motion, seed) == side) {
                    worth += text.motions.get(motion)[side];
                }
            }
        }
        return worth;
    }

    int tell(int man, int sum) {
        if (told.size() == 20 || !isMan(man) || sum < 0 || sum > 99) {
            return -1;
        }
        told.add(new int[] {man, sum});
        return told.size() - 1;
    }

    int forget() {
        int were = told.size();
        told.clear();
        return were;
    }

    int slipped(int k, int i) {
        if (k < 0 || k > told.size()) {
            return -1;
        }
        List<Integer> who = new ArrayList<>();
        for (int m = 0; m < text.men.size(); m++) {
            if (world.men.get(m).topic >= 0) {
                who.add(m);
            }
        }
        List<Integer> sets = new ArrayList<>();
        for (int set : subsets(who)) {
            boolean so = true;
            for (int[] t : told.subList(0, k)) {
                so &= sum(t[0], (set >> t[0] & 1) == 1) == t[1];
            }
            if (so) {
                sets.add(set);
            }
        }
        return pick(sets, i);
    }

    int thinks(int man, int k) {
        if (!isMan(man) || k < 0 || k > told.size()) {
            return -1;
        }
        int sides = 0;
        for (int side = 0; side < text.sides; side++) {
            World w = world.copy();
            w.men.get(man).side = side;
            for (boolean slip : new boolean[] {false, true}) {
                boolean so = true;
                for (int[] t : told.subList(0, k)) {
                    if (t[0] == man) {
                        so &= w.men.get(man).topic >= 0 && w.sum(man, slip) == t[1];
                    }
                }
                sides |= so ? 1 << side : 0;
            }
        }
        return sides;
    }

    boolean hold(int slot) {
        if (slot < 0 || slot > 2) {
            return false;
        }
        slots[slot] = world.copy();
        return true;
    }

    boolean restore(int slot) {
        if (slot < 0 || slot > 2 || slots[slot] == null) {
            return false;
        }
        world = slots[slot].copy();
        done.clear();
        return true;
    }

    int count(int what) {
        List<Integer> sworn = new ArrayList<>();
        List<Integer> kept = new ArrayList<>();
        int coins = 0;
        int slips = 0;
        for (int m = 0; m < text.men.size(); m++) {
            Man man = world.men.get(m);
            if (man.left >= 0) {
                sworn.add(m);
            }
            if (man.kept != -2) {
                kept.add(m);
            }
            coins += man.coins;
            slips += man.slips;
        }
        int fallen = 0;
        for (int m = 0; m < world.fell.length; m++) {
            fallen |= world.fell[m] >= 0 ? 1 << m : 0;
        }
        int held = 0;
        for (World w : slots) {
            held += w != null ? 1 : 0;
        }
        int[] all = {text.sides, text.men.size(), text.motions.size(), text.jurors.size(), world.day, fallen,
            bits(sworn), world.paid, tape.length, done.size(), told.size(), held, coins, bits(kept), slips};
        return what >= 0 && what < all.length ? all[what] : -1;
    }

    /** One function for each rule of the grammar; the first fault of a pass flies. */
    static final class Parser {
        final String s;
        final List<String> tokens = new ArrayList<>();
        final List<Integer> places = new ArrayList<>();
        int at = 0;
        int open = 0;
        /** Faults of the second pass, as {place, kind}. */
        final List<int[]> later = new ArrayList<>();

        Parser(String s) {
            this.s = s;
            int i = 0;
            while (i < s.length()) {
                char c = s.charAt(i);
                int from = i;
                if (c == 9 || c == 10 || c == 13 || c == 32) {
                    i++;
                    continue;
                }
                String run = "";
                if (c >= 'a' && c <= 'z') {
                    while (i < s.length() && s.charAt(i) >= 'a' && s.charAt(i) <= 'z') {
                        run += s.charAt(i++);
                    }
                    run = run.length() > 8 ? "?" : run;
                } else if (c >= '0' && c <= '9') {
                    while (i < s.length() && s.charAt(i) >= '0' && s.charAt(i) <= '9') {
                        run += s.charAt(i++);
                    }
                    run = run.length() > 4 ? "?" : run;
                } else {
                    run = ";=+-*/<()".indexOf(c) >= 0 ? "" + c : "?";
                    i++;
                }
                tokens.add(run);
                places.add(from);
            }
        }

        String peek() {
            return at < tokens.size() ? tokens.get(at) : "";
        }

        int place() {
            return at < tokens.size() ? places.get(at) : s.length();
        }

        boolean isInt() {
            return !peek().isEmpty() && Character.isDigit(peek().charAt(0));
        }

        boolean isName() {
            return !peek().isEmpty() && peek().charAt(0) >= 'a' && peek().charAt(0) <= 'z' && !WORDS.contains(peek());
        }

        /** Takes a token that may stand here; of the 400 ones before it there is room. */
        String take() {
            room(at >= 400);
            return tokens.get(at++);
        }

        void room(boolean isFull) {
            if (isFull) {
                throw new Fault(2, place());
            }
        }

        RuntimeException syntax() {
            return new Fault(1, place());
        }

        void word(String w) {
            if (!peek().equals(w)) {
                throw syntax();
            }
            take();
        }

        int number(int low, int high) {
            if (!isInt()) {
                throw syntax();
            }
            int where = place();
            int n = Integer.parseInt(take());
            if (n < low || n > high) {
                later.add(new int[] {where, 5});
            }
            return n;
        }

        void name(Set<String> names) {
            if (!isName()) {
                throw syntax();
            }
            int where = place();
            if (!names.add(take())) {
                later.add(new int[] {where, 3});
            }
        }

        Text text() {
            Text t = new Text();
            Set<String> names = new HashSet<>();
            while (at < tokens.size()) {
                tell(t, names);
            }
            for (int[] man : t.men) {
                if (man[0] >= t.sides) {
                    later.add(new int[] {s.length(), 5});
                }
            }
            for (int lean : t.jurors) {
                if (lean >= t.sides) {
                    later.add(new int[] {s.length(), 5});
                }
            }
            later.sort((a, b) -> a[0] != b[0] ? a[0] - b[0] : a[1] - b[1]);
            if (!later.isEmpty()) {
                throw new Fault(later.get(0)[1], later.get(0)[0]);
            }
            return t;
        }

        void tell(Text t, Set<String> names) {
            String w = peek();
            room(w.equals("man") && t.men.size() == 7);
            room(w.equals("motion") && t.motions.size() == 5);
            room(w.equals("juror") && t.jurors.size() == 8);
            if (w.equals("sides")) {
                take();
                t.sides = number(2, 3);
            } else if (w.equals("man")) {
                take();
                name(names);
                t.men.add(new int[] {number(0, 2), number(1, 9), number(0, 10), number(0, 999)});
            } else if (w.equals("motion")) {
                take();
                name(names);
                t.motions.add(new int[] {number(0, 99), number(0, 99), number(0, 99)});
            } else if (w.equals("juror")) {
                take();
                name(names);
                t.jurors.add(number(0, 2));
            } else if (w.equals("argues")) {
                take();
                t.argues = law();
            } else if (w.equals("marks")) {
                take();
                t.marks = law();
            } else if (w.equals("fines")) {
                take();
                t.fines = law();
            } else if (w.equals("seed")) {
                take();
                t.seed = number(0, 9999);
            } else {
                throw syntax();
            }
            word(";");
        }

        Expr law() {
            word("=");
            return branch(0);
        }

        Expr branch(int ifs) {
            if (!peek().equals("if")) {
                return e();
            }
            room(ifs == 4);
            word("if");
            Expr left = e();
            word("<");
            Expr right = e();
            word("then");
            Expr yes = e();
            word("else");
            Expr no = branch(ifs + 1);
            return v -> left.of(v) < right.of(v) ? yes.of(v) : no.of(v);
        }

        Expr e() {
            Expr sum = part();
            while (peek().equals("+") || peek().equals("-")) {
                Expr left = sum;
                boolean plus = take().equals("+");
                Expr right = part();
                sum = plus ? v -> left.of(v) + right.of(v) : v -> left.of(v) - right.of(v);
            }
            return sum;
        }

        Expr part() {
            Expr product = unit();
            while (peek().equals("*") || peek().equals("/")) {
                Expr left = product;
                boolean times = take().equals("*");
                Expr right = unit();
                product = times ? v -> left.of(v) * right.of(v) : v -> divided(left.of(v), right.of(v));
            }
            return product;
        }

        static int divided(int a, int b) {
            if (b == 0) {
                throw new Zero();
            }
            return a / b;
        }

        Expr unit() {
            if (isInt()) {
                int n = Integer.parseInt(take());
                return v -> n;
            }
            if (VARS.contains(peek())) {
                String name = take();
                return v -> v.get(name);
            }
            if (!peek().equals("(")) {
                throw syntax();
            }
            room(open == 6);
            open++;
            take();
            Expr inside = e();
            word(")");
            open--;
            return inside;
        }
    }
}
