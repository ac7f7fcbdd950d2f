import java.math.BigInteger;
import java.util.ArrayList;
import java.util.Arrays;
import java.util.List;
import java.util.Random;
import java.util.TreeSet;

/**
 * Long random runs (from fixed seeds) against a second program that is written from the document in
 * another way: its texts by derivatives of the grammar, its fractions by BigInteger, its kin by
 * sets and recursion. All that can be asked is asked behind each call that changes something.
 */
public final class ModelTest {
    private static int wrong = 0;
    private static int settles, spents, undos, goodTexts;
    private static final int[] faults = new int[6];
    private static final int[] whys = new int[7];

    public static void main(String[] args) {
        int runs = args.length > 0 ? Integer.parseInt(args[0]) : 1500;
        for (int seed = 0; seed < runs && wrong < 20; seed++) {
            new Run(seed).go();
        }
        for (int seed = 0; seed < runs * 4 && wrong < 20; seed++) {
            textsOnly(seed);
        }
        System.out.println("deaths " + settles + ", spent " + spents + ", undone " + undos + ", laws " + goodTexts
            + ", faults " + Arrays.toString(faults) + ", whys " + Arrays.toString(whys));
        // A change of the random texts must not make the runs thin unseen.
        boolean thin = settles < 100 || spents < 20 || undos < 20 || goodTexts < 100;
        for (int why : whys) {
            thin |= why < 50;
        }
        for (int fault = 1; fault <= 5; fault++) {
            thin |= faults[fault] < 20;
        }
        System.out.println(wrong == 0 ? "as the model answers" : wrong + " answers are not the model's");
        if (wrong != 0 || thin && runs >= 1500) {
            System.exit(1);
        }
    }

    // ---- exact fractions ----

    private static final class Spent extends RuntimeException {
        private static final long serialVersionUID = 1;
    }

    private static final class Frac {
        static final BigInteger UP = BigInteger.TEN.pow(12);
        static final BigInteger LOW = BigInteger.TEN.pow(6);
        static final Frac ZERO = new Frac(0, 1);
        static final Frac ONE = new Frac(1, 1);
        final BigInteger up;
        final BigInteger low;

        Frac(long up, long low) {
            this(BigInteger.valueOf(up), BigInteger.valueOf(low));
        }

        Frac(BigInteger a, BigInteger b) {
            BigInteger g = a.gcd(b);
            up = a.divide(g);
            low = b.divide(g);
            if (up.compareTo(UP) > 0 || low.compareTo(LOW) > 0) {
                throw new Spent();
            }
        }

        Frac plus(Frac o) {
            return new Frac(up.multiply(o.low).add(o.up.multiply(low)), low.multiply(o.low));
        }

        Frac minus(Frac o) {
            return new Frac(up.multiply(o.low).subtract(o.up.multiply(low)), low.multiply(o.low));
        }

        Frac times(Frac o) {
            return new Frac(up.multiply(o.up), low.multiply(o.low));
        }

        Frac over(Frac o) {
            return new Frac(up.multiply(o.low), low.multiply(o.up));
        }

        int compare(Frac o) {
            return up.multiply(o.low).compareTo(o.up.multiply(low));
        }

        boolean positive() {
            return up.signum() > 0;
        }
    }

    // ---- the grammar, by derivatives ----

    private interface Rex {
        boolean nullable();

        Rex derive(Tok t);
    }

    private static final Rex NEVER = new Rex() {
        public boolean nullable() {
            return false;
        }

        public Rex derive(Tok t) {
            return this;
        }
    };
    private static final Rex EMPTY = new Rex() {
        public boolean nullable() {
            return true;
        }

        public Rex derive(Tok t) {
            return NEVER;
        }
    };

    private static Rex tok(String what) {
        return new Rex() {
            public boolean nullable() {
                return false;
            }

            public Rex derive(Tok t) {
                return t.is(what) ? EMPTY : NEVER;
            }
        };
    }

    private static Rex seq(Rex a, Rex b) {
        if (a == NEVER || b == NEVER) {
            return NEVER;
        }
        if (a == EMPTY) {
            return b;
        }
        return new Rex() {
            public boolean nullable() {
                return a.nullable() && b.nullable();
            }

            public Rex derive(Tok t) {
                Rex first = seq(a.derive(t), b);
                return a.nullable() ? or(first, b.derive(t)) : first;
            }
        };
    }

    private static Rex seq(Object... all) {
        Rex rex = EMPTY;
        for (int i = all.length - 1; i >= 0; i--) {
            rex = seq(all[i] instanceof Rex ? (Rex) all[i] : tok((String) all[i]), rex);
        }
        return rex;
    }

    private static Rex or(Rex a, Rex b) {
        if (a == NEVER) {
            return b;
        }
        if (b == NEVER) {
            return a;
        }
        return new Rex() {
            public boolean nullable() {
                return a.nullable() || b.nullable();
            }

            public Rex derive(Tok t) {
                return or(a.derive(t), b.derive(t));
            }
        };
    }

    private static Rex or(Object... all) {
        Rex rex = NEVER;
        for (Object o : all) {
            rex = or(rex, o instanceof Rex ? (Rex) o : tok((String) o));
        }
        return rex;
    }

    private static Rex many(Rex a) {
        return new Rex() {
            public boolean nullable() {
                return true;
            }

            public Rex derive(Tok t) {
                return seq(a.derive(t), many(a));
            }
        };
    }

    private static Rex maybe(Rex a) {
        return or(EMPTY, a);
    }

    private static Rex grammar() {
        Rex step = seq(or("child", "mother", "father", "mate", "NAME"), maybe(or("m", "f")));
        Rex path = seq(step, many(seq(".", step)));
        Rex part = seq("INT", "/", "INT");
        return many(or(seq("kin", "NAME", "=", path, many(seq("|", path)), ";"),
            seq("fixed", "NAME", part, maybe(tok("each")), maybe(seq("if", "NAME")), maybe(seq("not", "NAME")), ";"),
            seq("bars", "NAME", "NAME", ";"),
            seq("rest", "NAME", "INT", many(seq(",", "NAME", "INT")), ";"),
            seq("back", "NAME", many(seq(",", "NAME")), ";"),
            seq("steps", "NAME", ";"),
            seq("will", part, ";")));
    }

    private static final Rex LAW = grammar();
    private static final List<String> WORDS = Arrays.asList("kin", "fixed", "each", "if", "not", "bars", "rest",
        "back", "steps", "will", "child", "mother", "father", "mate");

    private static final class Tok {
        final String text;
        final int at;

        Tok(String text, int at) {
            this.text = text;
            this.at = at;
        }

        boolean is(String what) {
            if (what.equals("NAME")) {
                return isName();
            }
            if (what.equals("INT")) {
                return text.matches("[0-9]{1,3}");
            }
            return text.equals(what);
        }

        boolean isName() {
            return text.matches("[a-z][a-z0-9]{0,9}") && !WORDS.contains(text);
        }

        boolean isToken() {
            return isName() || WORDS.contains(text) || is("INT") || text.matches("[=|.,;/]");
        }

        int number() {
            return Integer.parseInt(text);
        }
    }

    private static List<Tok> tokens(String s) {
        List<Tok> all = new ArrayList<>();
        java.util.regex.Matcher m = java.util.regex.Pattern.compile("[a-z][a-z0-9]*|[0-9]+|[^\\t\\n\\r ]",
            java.util.regex.Pattern.DOTALL).matcher(s);
        while (m.find()) {
            all.add(new Tok(m.group(), m.start()));
        }
        return all;
    }

    private static final class Fixed {
        int kin, ifKin = -1, notKin = -1;
        Frac part;
        boolean each;
    }

    private static final class Law {
        List<String> kins = new ArrayList<>();
        List<List<List<String[]>>> paths = new ArrayList<>();
        // A rule: its word, its KINS, its weights, its fixed.
        List<String> ruleWord = new ArrayList<>();
        List<List<Integer>> ruleKins = new ArrayList<>();
        List<List<Integer>> ruleWeights = new ArrayList<>();
        List<Fixed> ruleFixed = new ArrayList<>();
        TreeSet<Integer> steps = new TreeSet<>();
        Frac bound = Frac.ZERO;
    }

    /** The fault of a text as {number, place}, and the law that it tells if there is none. */
    private static final class Reading {
        final List<int[]> found = new ArrayList<>();
        int[] fault = {0, -1};
        final Law law = new Law();

        Reading(String s) {
            List<Tok> all = tokens(s);
            syntax(all, s.length());
            room(all);
            if (pick()) {
                return;
            }
            List<Tok> tell = new ArrayList<>();
            for (Tok t : all) {
                tell.add(t);
                if (t.text.equals(";")) {
                    mean(tell);
                    tell.clear();
                }
            }
            pick();
        }

        void syntax(List<Tok> all, int length) {
            Rex rex = LAW;
            for (Tok t : all) {
                rex = t.isToken() ? rex.derive(t) : NEVER;
                if (rex == NEVER) {
                    found.add(new int[] {1, t.at});
                    return;
                }
            }
            if (!rex.nullable()) {
                found.add(new int[] {1, length});
            }
        }

        void room(List<Tok> all) {
            int kins = 0;
            int rules = 0;
            int row = 0;
            String word = "";
            for (int i = 0; i < all.size(); i++) {
                Tok t = all.get(i);
                Tok ahead = i == 0 ? new Tok(";", 0) : all.get(i - 1);
                if (i == 600) {
                    found.add(new int[] {2, t.at});
                }
                if (ahead.text.equals(";")) {
                    word = t.text;
                    row = 0;
                    rules += Arrays.asList("fixed", "bars", "rest", "back").contains(word) ? 1 : 0;
                    if (rules == 31) {
                        found.add(new int[] {2, t.at});
                        rules++;
                    }
                }
                if (ahead.text.equals("kin") && t.isName() && ++kins == 21) {
                    found.add(new int[] {2, t.at});
                }
                boolean opensStep = word.equals("kin") && (ahead.text.equals("=") || ahead.text.equals("|")
                    || ahead.text.equals("."));
                if (opensStep) {
                    row = ahead.text.equals(".") ? row + 1 : 1;
                }
                boolean listed = (word.equals("rest") || word.equals("back")) && t.isName();
                row += listed ? 1 : 0;
                if ((opensStep || listed) && row == 9) {
                    found.add(new int[] {2, t.at});
                }
            }
        }

        boolean pick() {
            for (int[] f : found) {
                if (fault[0] == 0 || f[1] < fault[1] || f[1] == fault[1] && f[0] < fault[0]) {
                    fault = f;
                }
            }
            return fault[0] != 0;
        }

        int kin(Tok t) {
            int k = law.kins.indexOf(t.text);
            if (k < 0) {
                found.add(new int[] {4, t.at});
            }
            return k;
        }

        Frac part(Tok above, Tok below) {
            if (below.number() == 0 || below.number() < above.number()) {
                found.add(new int[] {5, below.at});
                return Frac.ZERO;
            }
            return new Frac(above.number(), below.number());
        }

        void mean(List<Tok> tell) {
            String word = tell.get(0).text;
            List<Integer> kins = new ArrayList<>();
            List<Integer> weights = new ArrayList<>();
            Fixed fixed = null;
            if (word.equals("kin")) {
                kinTell(tell);
                return;
            } else if (word.equals("steps")) {
                law.steps.add(kin(tell.get(1)));
                return;
            } else if (word.equals("will")) {
                law.bound = part(tell.get(1), tell.get(3));
                return;
            } else if (word.equals("fixed")) {
                fixed = new Fixed();
                fixed.kin = kin(tell.get(1));
                fixed.part = part(tell.get(2), tell.get(4));
                for (int i = 5; i < tell.size(); i++) {
                    fixed.each |= tell.get(i).text.equals("each");
                    if (tell.get(i).text.equals("if")) {
                        fixed.ifKin = kin(tell.get(i + 1));
                    }
                    if (tell.get(i).text.equals("not")) {
                        fixed.notKin = kin(tell.get(i + 1));
                    }
                }
            } else {
                List<String> names = new ArrayList<>();
                for (int i = 1; i < tell.size(); i++) {
                    Tok t = tell.get(i);
                    if (t.isName()) {
                        kins.add(kin(t));
                        if (names.contains(t.text)) {
                            found.add(new int[] {word.equals("bars") ? 5 : 3, t.at});
                        }
                        names.add(t.text);
                    } else if (t.is("INT")) {
                        weights.add(t.number());
                        if (t.number() == 0) {
                            found.add(new int[] {5, t.at});
                        }
                    }
                }
            }
            law.ruleWord.add(word);
            law.ruleKins.add(kins);
            law.ruleWeights.add(weights);
            law.ruleFixed.add(fixed);
        }

        void kinTell(List<Tok> tell) {
            if (law.kins.contains(tell.get(1).text)) {
                found.add(new int[] {3, tell.get(1).at});
            }
            List<List<String[]>> paths = new ArrayList<>();
            for (int i = 2; i < tell.size() - 1; i++) {
                String sign = tell.get(i).text;
                if (sign.equals("=") || sign.equals("|")) {
                    paths.add(new ArrayList<>());
                }
                if (sign.matches("[=|.]")) {
                    Tok base = tell.get(i + 1);
                    String end = tell.get(i + 2).is("NAME") ? tell.get(i + 2).text : "";
                    String to = WORDS.contains(base.text) ? base.text : "" + kin(base);
                    paths.get(paths.size() - 1).add(new String[] {to, end});
                }
            }
            law.kins.add(tell.get(1).text);
            law.paths.add(paths);
        }
    }

    // ---- the office ----

    private static final class Person implements Cloneable {
        int sex, mother, father, born, died = -1;
        boolean listed;
        Frac worth = Frac.ZERO;
    }

    private static final class Estate {
        int owner, day, persons, restRule = -1;
        Frac debts = Frac.ZERO, legacies = Frac.ZERO, parted = Frac.ZERO, sum = Frac.ZERO, crown = Frac.ZERO;
        Frac[] part, legacy, debt;
        int[] why, rule;
    }

    private static final class Death {
        int day, persons;
        List<Integer> dead = new ArrayList<>();
        Frac[] worth;
        Frac strangers, crown;
    }

    private static final class Model {
        StringBuilder tape = new StringBuilder();
        Law law = new Law();
        int place = -1;
        List<Person> people = new ArrayList<>();
        List<int[]> mates = new ArrayList<>();
        List<int[]> debts = new ArrayList<>();
        List<int[]> legacies = new ArrayList<>();
        List<Death> deaths = new ArrayList<>();
        Estate[] settled = new Estate[30];
        Estate hand;
        Frac strangers = Frac.ZERO, crown = Frac.ZERO;
        int lastDay;

        int feed(int... words) {
            if (tape.length() + 20 > 2000) {
                return -1;
            }
            for (int w : words) {
                for (int i = 3; i >= 0; i--) {
                    tape.append((char) (w >>> (8 * i) & 255));
                }
            }
            return tape.length();
        }

        int back(int n) {
            if (n < 0 || n > tape.length()) {
                return -1;
            }
            tape.setLength(tape.length() - n);
            return tape.length();
        }

        int read() {
            Reading r = new Reading(tape.toString());
            tape.setLength(0);
            place = r.fault[1];
            if (r.fault[0] == 0) {
                law = r.law;
                goodTexts++;
            }
            faults[r.fault[0]]++;
            return r.fault[0];
        }

        boolean is(int p) {
            return p >= 0 && p < people.size();
        }

        boolean day(int d) {
            return d >= 0 && d <= 100000;
        }

        int person(int sex, int mother, int father, int born) {
            boolean ok = people.size() < 30 && (sex == 0 || sex == 1) && day(born)
                && (mother == -1 || is(mother) && people.get(mother).sex == 1 && people.get(mother).born < born)
                && (father == -1 || is(father) && people.get(father).sex == 0 && people.get(father).born < born);
            if (!ok) {
                return -1;
            }
            Person p = new Person();
            p.sex = sex;
            p.mother = mother;
            p.father = father;
            p.born = born;
            people.add(p);
            return people.size() - 1;
        }

        boolean mates(int a, int b, int from, int until) {
            if (!is(a) || !is(b) || a == b || !day(from) || mates.size() == 60) {
                return false;
            }
            if (until != -1 && (!day(until) || until <= from)) {
                return false;
            }
            return mates.add(new int[] {a, b, from, until == -1 ? Integer.MAX_VALUE : until});
        }

        boolean undead(int p) {
            return is(p) && people.get(p).died == -1;
        }

        boolean wealth(int p, int v) {
            if (!undead(p) || !day(v)) {
                return false;
            }
            people.get(p).worth = new Frac(v, 1);
            return true;
        }

        boolean owes(int p, int q, int v) {
            return undead(p) && (is(q) || q == -1) && p != q && v > 0 && day(v) && debts.size() < 60
                && debts.add(new int[] {p, q, v});
        }

        boolean leaves(int p, int q, int a, int b) {
            return undead(p) && is(q) && p != q && b >= 1 && b <= 1000 && a >= 1 && a <= b && legacies.size() < 60
                && legacies.add(new int[] {p, q, a, b});
        }

        boolean dies(int p) {
            if (!undead(p) || people.get(p).listed) {
                return false;
            }
            return people.get(p).listed = true;
        }

        List<Integer> listed() {
            List<Integer> all = new ArrayList<>();
            for (int p = 0; p < people.size(); p++) {
                if (people.get(p).listed) {
                    all.add(p);
                }
            }
            return all;
        }

        Frac[] worths() {
            Frac[] all = new Frac[people.size()];
            for (int p = 0; p < all.length; p++) {
                all[p] = people.get(p).worth;
            }
            return all;
        }

        int settle(int day) {
            List<Integer> dying = listed();
            if (dying.isEmpty() || day < lastDay || day > 100000) {
                return -1;
            }
            for (int p : dying) {
                if (people.get(p).born > day) {
                    return -1;
                }
            }
            Death death = new Death();
            death.day = lastDay;
            death.persons = people.size();
            death.dead = dying;
            death.worth = worths();
            death.strangers = strangers;
            death.crown = crown;
            Purse purse = new Purse(this);
            List<Estate> made = new ArrayList<>();
            try {
                for (int p : dying) {
                    made.add(workOut(p, day, dying, purse));
                }
            } catch (Spent e) {
                spents++;
                return -2;
            }
            settles++;
            deaths.add(death);
            for (int i = 0; i < dying.size(); i++) {
                settled[dying.get(i)] = made.get(i);
                people.get(dying.get(i)).died = day;
                people.get(dying.get(i)).listed = false;
            }
            for (int p = 0; p < people.size(); p++) {
                people.get(p).worth = purse.worth[p];
            }
            strangers = purse.strangers;
            crown = purse.crown;
            lastDay = day;
            return dying.size();
        }

        boolean undo() {
            if (deaths.isEmpty()) {
                return false;
            }
            undos++;
            Death death = deaths.remove(deaths.size() - 1);
            lastDay = death.day;
            strangers = death.strangers;
            crown = death.crown;
            for (int p = 0; p < people.size(); p++) {
                people.get(p).listed = death.dead.contains(p);
                if (p < death.persons) {
                    people.get(p).worth = death.worth[p];
                }
                if (death.dead.contains(p)) {
                    people.get(p).died = -1;
                    settled[p] = null;
                }
            }
            return true;
        }

        int would(int p, int day) {
            if (!undead(p) || day < lastDay || day > 100000 || people.get(p).born > day) {
                return -1;
            }
            try {
                hand = workOut(p, day, Arrays.asList(p), new Purse(this));
            } catch (Spent e) {
                spents++;
                return -2;
            }
            return 0;
        }

        boolean open(int p) {
            if (!is(p) || settled[p] == null) {
                return false;
            }
            hand = settled[p];
            return true;
        }

        long part(Frac f, int what) {
            return (what % 2 == 0 ? f.up : f.low).longValueExact();
        }

        long estate(int what) {
            if (hand == null || what < 0 || what > 12) {
                return -1;
            }
            if (what >= 10) {
                return what == 10 ? hand.owner : what == 11 ? hand.day : hand.restRule;
            }
            Frac[] all = {hand.debts, hand.legacies, hand.parted, hand.sum, hand.crown};
            return part(all[what / 2], what);
        }

        long got(int q, int what) {
            if (hand == null || q < 0 || q >= hand.persons || what < 0 || what > 5) {
                return -1;
            }
            return part((what < 2 ? hand.part : what < 4 ? hand.legacy : hand.debt)[q], what);
        }

        int why(int q) {
            return hand == null || q < 0 || q >= hand.persons ? -1 : hand.why[q];
        }

        int rule(int q) {
            return hand == null || q < 0 || q >= hand.persons ? -1 : hand.rule[q];
        }

        int kin(int k, int d, int day, int i) {
            if (k < 0 || k >= law.kins.size() || !is(d) || !day(day) || i < 0) {
                return -1;
            }
            List<Integer> all = new ArrayList<>(kinOf(k, d, day));
            return i < all.size() ? all.get(i) : -1;
        }

        long told(int p, int what) {
            if (!is(p) || what < 0 || what > 7) {
                return -1;
            }
            Person x = people.get(p);
            if (what >= 6) {
                return part(x.worth, what);
            }
            return new int[] {x.sex, x.mother, x.father, x.born, x.died, x.listed ? 1 : 0}[what];
        }

        long outside(int who, int what) {
            if (who < 0 || who > 1 || what < 0 || what > 1) {
                return -1;
            }
            return part(who == 0 ? strangers : crown, what);
        }

        int count(int what) {
            if (what < 0 || what > 10) {
                return -1;
            }
            int dead = 0;
            for (Person p : people) {
                dead += p.died == -1 ? 0 : 1;
            }
            return new int[] {people.size(), mates.size(), debts.size(), legacies.size(), law.kins.size(),
                law.ruleWord.size(), listed().size(), dead, deaths.size(), lastDay, tape.length()}[what];
        }

        // ---- III ----

        TreeSet<Integer> kinOf(int k, int d, int day) {
            TreeSet<Integer> all = new TreeSet<>();
            for (List<String[]> path : law.paths.get(k)) {
                TreeSet<Integer> here = new TreeSet<>();
                here.add(d);
                for (String[] step : path) {
                    TreeSet<Integer> there = new TreeSet<>();
                    for (int x : here) {
                        there.addAll(oneStep(step[0], x, day));
                    }
                    there.removeIf(y -> people.get(y).born > day
                        || step[1].equals("m") && people.get(y).sex != 0
                        || step[1].equals("f") && people.get(y).sex != 1);
                    here = there;
                }
                all.addAll(here);
            }
            all.remove(d);
            return all;
        }

        TreeSet<Integer> oneStep(String step, int x, int day) {
            TreeSet<Integer> to = new TreeSet<>();
            Person p = people.get(x);
            switch (step) {
                case "child":
                    to.addAll(children(x));
                    break;
                case "mother":
                    to.add(p.mother);
                    break;
                case "father":
                    to.add(p.father);
                    break;
                case "mate":
                    for (int[] m : mates) {
                        if (m[2] <= day - 1 && day - 1 < m[3] && (m[0] == x || m[1] == x)) {
                            to.add(m[0] + m[1] - x);
                        }
                    }
                    break;
                default:
                    to.addAll(kinOf(Integer.parseInt(step), x, day));
            }
            to.remove(-1);
            return to;
        }

        List<Integer> children(int x) {
            List<Integer> all = new ArrayList<>();
            for (int c = 0; c < people.size(); c++) {
                if (people.get(c).mother == x || people.get(c).father == x) {
                    all.add(c);
                }
            }
            return all;
        }

        boolean lives(int p, int day, List<Integer> dying) {
            Person x = people.get(p);
            return x.born <= day && (x.died == -1 || x.died > day) && !dying.contains(p);
        }

        boolean line(int p, int day, List<Integer> dying) {
            for (int c : children(p)) {
                if (lives(c, day, dying) || line(c, day, dying)) {
                    return true;
                }
            }
            return false;
        }

        TreeSet<Integer> heads(int k, int d, int day, List<Integer> dying) {
            TreeSet<Integer> all = kinOf(k, d, day);
            all.removeIf(x -> !lives(x, day, dying) && !(law.steps.contains(k) && line(x, day, dying)));
            return all;
        }

        void pass(int x, Frac part, int day, List<Integer> dying, Frac[] shares) {
            if (lives(x, day, dying)) {
                shares[x] = shares[x].plus(part);
                return;
            }
            List<Integer> heirs = children(x);
            heirs.removeIf(c -> !lives(c, day, dying) && !line(c, day, dying));
            Frac each = part.over(new Frac(heirs.size(), 1));
            for (int c : heirs) {
                pass(c, each, day, dying, shares);
            }
        }

        void part(Estate e, List<Integer> dying) {
            int n = people.size();
            List<TreeSet<Integer>> heads = new ArrayList<>();
            TreeSet<Integer> allHeads = new TreeSet<>();
            for (int k = 0; k < law.kins.size(); k++) {
                heads.add(heads(k, e.owner, e.day, dying));
                allHeads.addAll(heads.get(k));
            }
            int[] barRule = new int[n];
            int[] fixedRule = new int[n];
            Arrays.fill(barRule, -1);
            Arrays.fill(fixedRule, -1);
            for (int r = 0; r < law.ruleWord.size(); r++) {
                if (law.ruleWord.get(r).equals("bars")) {
                    for (int x : kinOf(law.ruleKins.get(r).get(1), e.owner, e.day)) {
                        TreeSet<Integer> others = new TreeSet<>(heads.get(law.ruleKins.get(r).get(0)));
                        others.remove(x);
                        if (!others.isEmpty() && barRule[x] == -1) {
                            barRule[x] = r;
                        }
                    }
                }
            }
            Frac[] p = new Frac[n];
            Frac s = Frac.ZERO;
            for (int r = 0; r < law.ruleWord.size(); r++) {
                Fixed f = law.ruleFixed.get(r);
                if (f == null || f.ifKin >= 0 && heads.get(f.ifKin).isEmpty()
                    || f.notKin >= 0 && !heads.get(f.notKin).isEmpty()) {
                    continue;
                }
                List<Integer> takers = new ArrayList<>(heads.get(f.kin));
                takers.removeIf(x -> barRule[x] != -1 || p[x] != null);
                if (takers.isEmpty()) {
                    continue;
                }
                Frac count = new Frac(takers.size(), 1);
                s = f.each ? s.plus(f.part.times(count)) : s.plus(f.part);
                for (int x : takers) {
                    p[x] = f.each ? f.part : f.part.over(count);
                    fixedRule[x] = r;
                }
            }
            e.sum = s;
            Frac rest = Frac.ZERO;
            if (s.compare(Frac.ONE) > 0) {
                for (int x = 0; x < n; x++) {
                    p[x] = p[x] == null ? null : p[x].over(s);
                }
            } else {
                rest = Frac.ONE.minus(s);
            }
            Frac[] own = p.clone();
            if (rest.positive() && !byRest(e, heads, barRule, p, own, rest) && !byBack(e, heads, p, own, rest)) {
                e.crown = rest;
            }
            e.part = new Frac[n];
            Arrays.fill(e.part, Frac.ZERO);
            for (int x = 0; x < n; x++) {
                if (own[x] != null) {
                    pass(x, own[x], e.day, dying, e.part);
                }
            }
            e.why = new int[n];
            e.rule = new int[n];
            for (int x = 0; x < n; x++) {
                e.rule[x] = -1;
                if (x == e.owner) {
                    e.why[x] = 6;
                } else if (!allHeads.contains(x)) {
                    e.why[x] = e.part[x].positive() ? 5 : 0;
                } else if (barRule[x] != -1) {
                    e.why[x] = 1;
                    e.rule[x] = barRule[x];
                } else if (p[x] != null) {
                    e.why[x] = 2;
                    e.rule[x] = fixedRule[x];
                } else if (own[x] != null) {
                    e.why[x] = 3;
                    e.rule[x] = e.restRule;
                } else {
                    e.why[x] = 4;
                }
                whys[e.why[x]]++;
            }
        }

        boolean byRest(Estate e, List<TreeSet<Integer>> heads, int[] barRule, Frac[] p, Frac[] own, Frac rest) {
            for (int r = 0; r < law.ruleWord.size(); r++) {
                if (!law.ruleWord.get(r).equals("rest")) {
                    continue;
                }
                int[] weight = new int[p.length];
                int all = 0;
                for (int x = 0; x < p.length; x++) {
                    for (int i = law.ruleKins.get(r).size() - 1; i >= 0; i--) {
                        if (heads.get(law.ruleKins.get(r).get(i)).contains(x) && barRule[x] == -1) {
                            weight[x] = law.ruleWeights.get(r).get(i);
                        }
                    }
                    all += weight[x];
                }
                if (all == 0) {
                    continue;
                }
                for (int x = 0; x < p.length; x++) {
                    if (weight[x] > 0) {
                        Frac ahead = p[x] == null ? Frac.ZERO : p[x];
                        own[x] = ahead.plus(rest.times(new Frac(weight[x], all)));
                    }
                }
                e.restRule = r;
                return true;
            }
            return false;
        }

        boolean byBack(Estate e, List<TreeSet<Integer>> heads, Frac[] p, Frac[] own, Frac rest) {
            for (int r = 0; r < law.ruleWord.size(); r++) {
                if (!law.ruleWord.get(r).equals("back")) {
                    continue;
                }
                TreeSet<Integer> takers = new TreeSet<>();
                for (int k : law.ruleKins.get(r)) {
                    takers.addAll(heads.get(k));
                }
                takers.removeIf(x -> p[x] == null || !p[x].positive());
                if (takers.isEmpty()) {
                    continue;
                }
                Frac b = Frac.ZERO;
                for (int x : takers) {
                    b = b.plus(p[x]);
                }
                for (int x : takers) {
                    own[x] = p[x].plus(rest.times(p[x].over(b)));
                }
                e.restRule = r;
                return true;
            }
            return false;
        }

        // ---- IV ----

        Estate workOut(int dead, int day, List<Integer> dying, Purse purse) {
            Estate e = new Estate();
            e.owner = dead;
            e.day = day;
            e.persons = people.size();
            e.legacy = new Frac[e.persons];
            e.debt = new Frac[e.persons];
            Arrays.fill(e.legacy, Frac.ZERO);
            Arrays.fill(e.debt, Frac.ZERO);
            Frac mass = purse.worth[dead];
            for (int[] d : debts) {
                if (d[0] == dead && (d[1] == -1 || lives(d[1], day, dying))) {
                    Frac due = new Frac(d[2], 1);
                    Frac pay = due.compare(mass) > 0 ? mass : due;
                    mass = mass.minus(pay);
                    e.debts = e.debts.plus(pay);
                    if (d[1] == -1) {
                        purse.strangers = purse.strangers.plus(pay);
                    } else {
                        e.debt[d[1]] = e.debt[d[1]].plus(pay);
                        purse.worth[d[1]] = purse.worth[d[1]].plus(pay);
                    }
                }
            }
            List<int[]> due = new ArrayList<>();
            Frac all = Frac.ZERO;
            for (int[] l : legacies) {
                if (l[0] == dead && lives(l[1], day, dying)) {
                    due.add(l);
                    all = all.plus(new Frac(l[2], l[3]));
                }
            }
            boolean lessened = all.compare(law.bound) > 0;
            for (int[] l : due) {
                Frac own = new Frac(l[2], l[3]);
                Frac amount = mass.times(lessened ? own.over(all).times(law.bound) : own);
                e.legacy[l[1]] = e.legacy[l[1]].plus(amount);
                purse.worth[l[1]] = purse.worth[l[1]].plus(amount);
            }
            e.legacies = mass.times(lessened ? law.bound : all);
            e.parted = mass.minus(e.legacies);
            part(e, dying);
            for (int x = 0; x < e.persons; x++) {
                if (e.part[x].positive()) {
                    purse.worth[x] = purse.worth[x].plus(e.parted.times(e.part[x]));
                }
            }
            purse.crown = purse.crown.plus(e.parted.times(e.crown));
            purse.worth[dead] = Frac.ZERO;
            return e;
        }
    }

    private static final class Purse {
        final Frac[] worth;
        Frac strangers, crown;

        Purse(Model m) {
            worth = m.worths();
            strangers = m.strangers;
            crown = m.crown;
        }
    }

    // ---- random runs ----

    /** Texts of laws; some with a fault. */
    private static final class Texts {
        final Random random;
        final List<String> told = new ArrayList<>();
        final StringBuilder text = new StringBuilder();
        final int[] hard = {7, 11, 13, 97, 101, 499, 887, 953, 991, 997};

        Texts(Random random) {
            this.random = random;
        }

        String fresh() {
            String[] some = {"a", "b", "c", "d", "m", "f", "kid", "kin2", "heir", "abcdefghij", "if1", "e9"};
            String name = some[random.nextInt(some.length)];
            return random.nextInt(40) == 0 ? name : told.contains(name) ? "k" + told.size() : name;
        }

        String name() {
            if (told.isEmpty() || random.nextInt(150) == 0) {
                return "zz";
            }
            return told.get(random.nextInt(told.size()));
        }

        String part() {
            int below = random.nextInt(3) == 0 ? hard[random.nextInt(hard.length)] : 1 + random.nextInt(12);
            int above = random.nextInt(100) == 0 ? below + 1 : random.nextInt(below + 1);
            return above + "/" + (random.nextInt(200) == 0 ? 0 : below);
        }

        String step() {
            String[] words = {"child", "mother", "father", "mate", "child"};
            String s = told.isEmpty() || random.nextInt(3) > 0 ? words[random.nextInt(5)] : name();
            int end = random.nextInt(8);
            return end == 0 ? s + " m" : end == 1 ? s + " f" : s;
        }

        void kin() {
            String name = fresh();
            text.append("kin ").append(name).append("=");
            int paths = 1 + random.nextInt(3);
            for (int i = 0; i < paths; i++) {
                text.append(i == 0 ? "" : "|");
                int steps = random.nextInt(40) == 0 ? 7 + random.nextInt(3) : 1 + random.nextInt(3);
                for (int j = 0; j < steps; j++) {
                    text.append(j == 0 ? "" : ".").append(step());
                }
            }
            text.append(";");
            told.add(name);
        }

        void list(String word) {
            text.append(word).append(" ");
            int names = random.nextInt(60) == 0 ? 8 + random.nextInt(2) : 1 + random.nextInt(3);
            List<String> mine = new ArrayList<>();
            for (int i = 0; i < names; i++) {
                String name = name();
                if (mine.contains(name) && random.nextInt(6) > 0) {
                    continue;
                }
                text.append(mine.isEmpty() ? "" : ", ").append(name);
                mine.add(name);
                if (word.equals("rest")) {
                    text.append(" ").append(random.nextInt(100) == 0 ? 0 : random.nextInt(5) == 0
                        ? hard[random.nextInt(hard.length)] : 1 + random.nextInt(6));
                }
            }
            text.append(";");
        }

        String make(int tells) {
            for (int i = 0; i < tells; i++) {
                int what = told.size() < 3 ? random.nextInt(2) : random.nextInt(12);
                if (what < 3) {
                    kin();
                } else if (what < 7) {
                    text.append("fixed ").append(name()).append(" ").append(part());
                    text.append(random.nextInt(4) == 0 ? "each " : " ");
                    text.append(random.nextInt(4) == 0 ? "if " + name() + " " : "");
                    text.append(random.nextInt(4) == 0 ? "not " + name() + " " : "").append(";");
                } else if (what == 7) {
                    text.append("bars ").append(name()).append("\n").append(name()).append(";\r");
                } else if (what == 8) {
                    list("rest");
                } else if (what == 9) {
                    list("back");
                } else if (what == 10) {
                    text.append("steps\t").append(name()).append(";");
                } else {
                    text.append("will ").append(part()).append(";");
                }
            }
            return text.toString();
        }

        /** Changes the text somewhere, now and then so that a fault comes. */
        String spoil(String s) {
            String[] bits = {"=", "|", ".", ",", ";", "/", " ", "m ", "f ", "kin ", "each ", "if ", "not ", "1", "1234",
                "abcdefghijk", "A", "\u00e9", "\0", "child ", "rest ", "will ", "a", "9z", "fixed "};
            StringBuilder b = new StringBuilder(s);
            int at = random.nextInt(b.length() + 1);
            int way = random.nextInt(3);
            if (way > 0 && at < b.length()) {
                b.deleteCharAt(at);
            }
            if (way < 2) {
                b.insert(at, bits[random.nextInt(bits.length)]);
            }
            return b.toString();
        }
    }

    private static void textsOnly(int seed) {
        Random random = new Random(seed * 7919L + 5);
        Texts texts = new Texts(random);
        int size = random.nextInt(10) == 0 ? 40 + random.nextInt(60) : random.nextInt(12);
        String s = texts.make(size);
        int spoils = random.nextInt(4);
        for (int i = 0; i < spoils; i++) {
            s = texts.spoil(s);
        }
        if (random.nextInt(12) == 0) {
            s = roomy(random);
        }
        if (s.length() > 2000) {
            s = s.substring(0, 2000);
        }
        EstateOffice x = new EstateOffice();
        Model m = new Model();
        Run.feed(x, m, s);
        same(seed, "read " + s, x.read(), m.read());
        same(seed, "place " + s, x.place(), m.place);
        same(seed, "count(4) " + s, x.count(4), m.count(4));
        same(seed, "count(5) " + s, x.count(5), m.count(5));
    }

    /** Texts about as large as they can be. */
    private static String roomy(Random random) {
        StringBuilder b = new StringBuilder("kin a=child;");
        int way = random.nextInt(4);
        int many = way == 0 ? 19 + random.nextInt(2) : way == 1 ? 29 + random.nextInt(3) : 297 + random.nextInt(3);
        for (int i = 0; i < many; i++) {
            if (way == 0) {
                b.append("kin a").append(i).append("=a;");
            } else if (way == 1) {
                b.append(i % 3 == 0 ? "fixed a 1/2;" : i % 3 == 1 ? "back a;" : "rest a 1;");
            } else {
                b.append(i == 0 ? "kin b=a" : way == 2 ? "|a" : (i % 8 == 0 ? "|a" : ".a"));
            }
        }
        return b.append(way < 2 ? "" : random.nextInt(3) == 0 ? "" : ";").append(random.nextInt(2) == 0 ? "" : "steps a").toString();
    }

    private static void same(int seed, String call, long got, long want) {
        if (got != want) {
            wrong++;
            System.out.println("seed " + seed + ": " + call + " answered " + got + ", the model " + want);
        }
    }

    private static final class Run {
        final int seed;
        final Random random;
        final EstateOffice x = new EstateOffice();
        final Model m = new Model();
        int day = 0;

        Run(int seed) {
            this.seed = seed;
            random = new Random(seed * 104729L + 17);
        }

        static void feed(EstateOffice x, Model m, String s) {
            int pad = (20 - s.length() % 20) % 20;
            String padded = s + " ".repeat(pad);
            for (int i = 0; i < padded.length(); i += 20) {
                int[] w = new int[5];
                for (int j = 0; j < 20; j++) {
                    w[j / 4] = w[j / 4] << 8 | padded.charAt(i + j);
                }
                same(-1, "feed", x.feed(w[0], w[1], w[2], w[3], w[4]), m.feed(w));
            }
            same(-1, "back", x.back(pad), m.back(pad));
        }

        int one(boolean good) {
            int n = m.people.size();
            return good && n > 0 && random.nextInt(25) > 0 ? random.nextInt(n) : random.nextInt(34) - 2;
        }

        void go() {
            int calls = random.nextInt(4) == 0 ? 200 : 30 + random.nextInt(60);
            tellLaw();
            for (int i = 0; i < calls && wrong < 20; i++) {
                act();
                ask();
            }
        }

        void tellLaw() {
            String s = "";
            for (int tries = 0; tries < 8; tries++) {
                Texts texts = new Texts(random);
                s = texts.make(4 + random.nextInt(16));
                if (random.nextInt(9) == 0) {
                    s = texts.spoil(s);
                }
                s = s.length() > 2000 ? s.substring(0, 2000) : s;
                if (random.nextInt(9) == 0 || new Reading(s).fault[0] == 0) {
                    break;
                }
            }
            feed(x, m, s);
            same(seed, "read " + s, x.read(), m.read());
            same(seed, "place " + s, x.place(), m.place);
        }

        void act() {
            int n = m.people.size();
            int what = n < 6 ? 0 : random.nextInt(22);
            if (what <= 6) {
                tellPerson();
            } else if (what <= 8) {
                int from = random.nextInt(60);
                int[] a = {one(true), one(true), from - (random.nextInt(30) == 0 ? 70 : 0),
                    random.nextInt(2) == 0 ? -1 : from + random.nextInt(60)};
                same(seed, "mates " + Arrays.toString(a), bool(x.mates(a[0], a[1], a[2], a[3])),
                    bool(m.mates(a[0], a[1], a[2], a[3])));
            } else if (what <= 10) {
                int p = one(true);
                int v = random.nextInt(30) == 0 ? 100001 : random.nextInt(100001);
                same(seed, "wealth " + p + " " + v, bool(x.wealth(p, v)), bool(m.wealth(p, v)));
            } else if (what == 11) {
                int[] a = {one(true), random.nextInt(3) == 0 ? -1 : one(true), random.nextInt(20000)};
                same(seed, "owes " + Arrays.toString(a), bool(x.owes(a[0], a[1], a[2])), bool(m.owes(a[0], a[1], a[2])));
            } else if (what <= 13) {
                int below = random.nextInt(20) == 0 ? 1001 : random.nextInt(4) == 0 ? random.nextInt(1001) : 1 + random.nextInt(9);
                int above = random.nextInt(below + 2);
                int[] a = {one(true), one(true), above, below};
                same(seed, "leaves " + Arrays.toString(a), bool(x.leaves(a[0], a[1], a[2], a[3])),
                    bool(m.leaves(a[0], a[1], a[2], a[3])));
            } else if (what <= 15) {
                int p = one(true);
                same(seed, "dies " + p, bool(x.dies(p)), bool(m.dies(p)));
            } else if (what <= 17) {
                day = random.nextInt(20) == 0 ? random.nextInt(100) - 20 : m.lastDay + random.nextInt(30);
                same(seed, "settle " + day, x.settle(day), m.settle(day));
            } else if (what == 18) {
                if (random.nextInt(3) == 0) {
                    same(seed, "undo", bool(x.undo()), bool(m.undo()));
                } else if (random.nextInt(4) == 0) {
                    tellLaw();
                }
            } else if (what <= 20) {
                int p = one(true);
                int t = random.nextInt(20) == 0 ? random.nextInt(100) - 20 : m.lastDay + random.nextInt(60);
                same(seed, "would " + p + " " + t, x.would(p, t), m.would(p, t));
            } else {
                int p = one(true);
                same(seed, "open " + p, bool(x.open(p)), bool(m.open(p)));
            }
        }

        void tellPerson() {
            int n = m.people.size();
            int mother = -1;
            int father = -1;
            for (int i = 0; i < 6 && n > 0; i++) {
                int p = random.nextInt(n);
                boolean old = random.nextInt(8) == 0;
                if (random.nextInt(3) > 0 || old || p > n - 6) {
                    mother = m.people.get(p).sex == 1 ? p : mother;
                    father = m.people.get(p).sex == 0 ? p : father;
                }
            }
            int born = random.nextInt(12);
            born += mother < 0 ? 0 : m.people.get(mother).born;
            born = Math.max(born, father < 0 ? 0 : m.people.get(father).born + random.nextInt(9));
            int[] a = {random.nextInt(30) == 0 ? random.nextInt(5) - 2 : random.nextInt(2),
                random.nextInt(12) == 0 ? one(false) : mother, random.nextInt(12) == 0 ? one(false) : father,
                random.nextInt(60) == 0 ? -1 : random.nextInt(60) == 0 ? 100001 : born};
            same(seed, "person " + Arrays.toString(a), x.person(a[0], a[1], a[2], a[3]), m.person(a[0], a[1], a[2], a[3]));
        }

        long bool(boolean b) {
            return b ? 1 : 0;
        }

        void ask() {
            for (int what = -1; what <= 13; what++) {
                same(seed, "estate " + what, x.estate(what), m.estate(what));
                same(seed, "count " + what, x.count(what), m.count(what));
            }
            for (int p = -1; p <= m.people.size(); p++) {
                for (int what = -1; what <= 8; what++) {
                    same(seed, "told " + p + " " + what, x.told(p, what), m.told(p, what));
                    same(seed, "got " + p + " " + what, x.got(p, what), m.got(p, what));
                }
                same(seed, "why " + p, x.why(p), m.why(p));
                same(seed, "rule " + p, x.rule(p), m.rule(p));
            }
            for (int who = -1; who <= 2; who++) {
                for (int what = -1; what <= 2; what++) {
                    same(seed, "outside " + who + " " + what, x.outside(who, what), m.outside(who, what));
                }
            }
            for (int i = 0; i < 3; i++) {
                int[] a = {random.nextInt(6) - 1, one(true), random.nextInt(20) == 0 ? -1 : random.nextInt(90)};
                for (int j = -1; j < 5; j++) {
                    same(seed, "kin " + Arrays.toString(a) + " " + j, x.kin(a[0], a[1], a[2], j), m.kin(a[0], a[1], a[2], j));
                }
            }
        }
    }
}
