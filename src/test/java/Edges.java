import java.util.ArrayList;
import java.util.List;

/** What the tests of the edges share: dues, texts, and whether a refused call changed anything. */
final class Edges {
    /** One call and its answer (true counts 1). */
    interface Call {
        long on(EstateOffice x);
    }

    /** The calls ahead of one. */
    interface Calls {
        void on(EstateOffice x);
    }

    // Of the 512 calls that an object is promised for, the rest are for what goes ahead of a look.
    private static final int MOST_CALLS_OF_A_LOOK = 400;
    private static int wrong = 0;

    private Edges() {
    }

    static void due(String call, long got, long want) {
        if (got != want) {
            wrong++;
            System.out.println(call + " answered " + got + ", due is " + want);
        }
    }

    static void due(String call, boolean got, boolean want) {
        due(call, got ? 1 : 0, want ? 1 : 0);
    }

    static void due(String call, long[] got, long... want) {
        due(call + ": how many", got.length, want.length);
        for (int i = 0; i < want.length && i < got.length; i++) {
            due(call + " [" + i + "]", got[i], want[i]);
        }
    }

    static void end(String what) {
        System.out.println(wrong == 0 ? what + " holds" : wrong + " answers are not as due");
        if (wrong != 0) {
            System.exit(1);
        }
    }

    // ---- texts ----

    /** The text, byte by byte, comes behind the tape. */
    static void tape(EstateOffice x, String text) {
        int pad = (20 - text.length() % 20) % 20;
        String all = text + " ".repeat(pad);
        for (int at = 0; at < all.length(); at += 20) {
            int[] w = new int[5];
            for (int i = 0; i < 20; i++) {
                w[i / 4] = w[i / 4] << 8 | all.charAt(at + i) & 255;
            }
            x.feed(w[0], w[1], w[2], w[3], w[4]);
        }
        x.back(pad);
    }

    static int blankFeed(EstateOffice x) {
        return x.feed(0x20202020, 0x20202020, 0x20202020, 0x20202020, 0x20202020);
    }

    static void law(EstateOffice x, String text) {
        tape(x, text);
        due("read of '" + text + "'", x.read(), 0);
    }

    static EstateOffice lawful(String text) {
        EstateOffice x = new EstateOffice();
        law(x, text);
        return x;
    }

    static void fault(String text, int fault, int place) {
        EstateOffice x = new EstateOffice();
        tape(x, text);
        due("read of '" + text + "'", x.read(), fault);
        due("place of '" + text + "'", x.place(), place);
    }

    static void good(String text) {
        fault(text, 0, -1);
    }

    // ---- rows of answers ----

    static long[] worth(EstateOffice x, int p) {
        return new long[] {x.told(p, 6), x.told(p, 7)};
    }

    static long[] figures(EstateOffice x, int from, int to) {
        long[] all = new long[to - from + 1];
        for (int what = from; what <= to; what++) {
            all[what - from] = x.estate(what);
        }
        return all;
    }

    /** Upper and lower part of what each of these has of 1. */
    static long[] shares(EstateOffice x, int... persons) {
        long[] all = new long[persons.length * 2];
        for (int i = 0; i < persons.length; i++) {
            all[2 * i] = x.got(persons[i], 0);
            all[2 * i + 1] = x.got(persons[i], 1);
        }
        return all;
    }

    static long[] whys(EstateOffice x, int... persons) {
        long[] all = new long[persons.length];
        for (int i = 0; i < persons.length; i++) {
            all[i] = x.why(persons[i]);
        }
        return all;
    }

    /** All of a KIN, by numbers. */
    static long[] kinOf(EstateOffice x, int k, int d, int day) {
        List<Long> all = new ArrayList<>();
        for (int i = 0; i < 30 && x.kin(k, d, day, i) >= 0; i++) {
            all.add((long) x.kin(k, d, day, i));
        }
        return all.stream().mapToLong(Long::longValue).toArray();
    }

    // ---- nothing happens ----

    /** The same calls with and without this one: all that is asked behind it must be answered the same. */
    static void nothingHappens(String name, Calls ahead, Call call, long answer) {
        EstateOffice with = new EstateOffice();
        EstateOffice without = new EstateOffice();
        ahead.on(with);
        ahead.on(without);
        due(name, call.on(with), answer);
        due(name + ": place", with.place(), without.place());
        same(name, look(with), look(without));
    }

    /** A text with that FAULT, read on an empty tape, changes nothing but place(). */
    static void noLaw(Calls ahead, String text, int fault) {
        EstateOffice with = new EstateOffice();
        EstateOffice without = new EstateOffice();
        ahead.on(with);
        ahead.on(without);
        tape(with, text);
        due("read of '" + text + "'", with.read(), fault);
        same("read of '" + text + "'", look(with), look(without));
    }

    private static void same(String name, List<Long> got, List<Long> want) {
        due(name + ": answers behind it", got.size(), want.size());
        for (int i = 0; i < got.size() && i < want.size(); i++) {
            due(name + ": answer " + i + " behind it", got.get(i), want.get(i));
        }
    }

    /** Asks what can be asked, and then makes calls that show what cannot. */
    private static List<Long> look(EstateOffice x) {
        List<Long> seen = new ArrayList<>();
        int persons = Math.min(x.count(0), 6);
        ask(x, seen, persons);
        tryOut(x, seen, persons);
        due("a look takes few calls: " + seen.size(), seen.size() <= MOST_CALLS_OF_A_LOOK, true);
        return seen;
    }

    private static void ask(EstateOffice x, List<Long> seen, int persons) {
        askState(x, seen, persons);
        askEstate(x, seen, persons);
        for (int p = 0; p < persons; p++) {
            for (int what = 0; what <= 4; what++) {
                seen.add(x.told(p, what));
            }
            seen.add((long) x.why(p));
            seen.add((long) x.rule(p));
            for (int k = 0; k < x.count(4) && k < 3; k++) {
                for (int i = 0; i < 3; i++) {
                    seen.add((long) x.kin(k, p, 25, i));
                    seen.add((long) x.kin(k, p, 100000, i));
                }
            }
        }
    }

    private static void askState(EstateOffice x, List<Long> seen, int persons) {
        for (int what = 0; what <= 10; what++) {
            seen.add((long) x.count(what));
        }
        for (int i = 0; i < 4; i++) {
            seen.add(x.outside(i / 2, i % 2));
        }
        for (int p = 0; p < persons; p++) {
            seen.add(x.told(p, 4));
            seen.add(x.told(p, 5));
            seen.add(x.told(p, 6));
            seen.add(x.told(p, 7));
        }
    }

    private static void askEstate(EstateOffice x, List<Long> seen, int persons) {
        for (int what = 0; what <= 12; what++) {
            seen.add(x.estate(what));
        }
        for (int q = 0; q < persons; q++) {
            seen.add(x.got(q, 0));
            seen.add(x.got(q, 2));
            seen.add(x.got(q, 4));
        }
    }

    private static void tryOut(EstateOffice x, List<Long> seen, int persons) {
        for (int p = 0; p < persons && p < 2; p++) {
            seen.add((long) x.would(p, x.count(9)));
            askEstate(x, seen, persons);
        }
        for (int p = 0; p < persons; p++) {
            seen.add(x.open(p) ? 1L : 0L);
            seen.add(x.estate(4));
        }
        seen.add((long) x.settle(100000));
        askState(x, seen, persons);
        seen.add(x.undo() ? 1L : 0L);
        seen.add(x.undo() ? 1L : 0L);
        seen.add(x.undo() ? 1L : 0L);
        askState(x, seen, persons);
        seen.add((long) x.read());
        seen.add((long) x.place());
        seen.add((long) x.person(0, -1, -1, 7));
        seen.add(x.mates(0, 1, 3, 4) ? 1L : 0L);
        seen.add(x.owes(0, 1, 3) ? 1L : 0L);
        seen.add(x.leaves(0, 1, 3, 4) ? 1L : 0L);
    }
}
