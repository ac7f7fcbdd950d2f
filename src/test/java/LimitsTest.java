import java.lang.management.ManagementFactory;
import java.util.Random;

/** Wild arguments, the dearest calls, and what calls take of the room. */
public final class LimitsTest {
    private static final int[] WILD = {Integer.MIN_VALUE, Integer.MIN_VALUE + 1, -100000, -31, -2, -1, 0, 1, 2, 3, 7, 12,
        13, 19, 20, 21, 29, 30, 31, 32, 59, 60, 61, 63, 64, 999, 1000, 1001, 2000, 2001, 99999, 100000, 100001, 1 << 30,
        Integer.MAX_VALUE - 1, Integer.MAX_VALUE};
    private static int wrong = 0;

    public static void main(String[] args) {
        for (int seed = 0; seed < 400; seed++) {
            wildRun(new Random(seed), seed % 4 == 0 ? 5000 : 512);
        }
        manyLines();
        ladderOfLines();
        bigLaw();
        room();
        System.out.println(wrong == 0 ? "the limits hold" : wrong + " answers are not as due");
        if (wrong != 0) {
            System.exit(1);
        }
    }

    private static void due(String call, long got, long want) {
        if (got != want) {
            wrong++;
            System.out.println(call + " answered " + got + ", due is " + want);
        }
    }

    private static void law(EstateOffice x, String text) {
        int pad = (20 - text.length() % 20) % 20;
        String all = text + " ".repeat(pad);
        for (int at = 0; at < all.length(); at += 20) {
            int[] w = new int[5];
            for (int i = 0; i < 20; i++) {
                w[i / 4] = w[i / 4] << 8 | all.charAt(at + i);
            }
            x.feed(w[0], w[1], w[2], w[3], w[4]);
        }
        x.back(pad);
        due("read of " + text, x.read(), 0);
    }

    /** Whatever the calls are, none may throw: what it throws ends the test. */
    private static void wildRun(Random r, int calls) {
        EstateOffice x = new EstateOffice();
        if (r.nextInt(3) > 0) {
            law(x, "kin c=child;kin p=mother|father;kin m=mate;kin s=p.child;steps c;steps s;bars c s;fixed m 1/4 if c;"
                + "fixed p 1/6 each;fixed c 2/3;rest c 1,s 1;back p,c;will 1/3;");
        }
        for (int i = 0; i < calls; i++) {
            wildCall(x, r);
        }
    }

    private static int any(Random r) {
        int what = r.nextInt(8);
        return what == 0 ? WILD[r.nextInt(WILD.length)] : what == 1 ? r.nextInt() : what < 5 ? r.nextInt(32) - 1 : r.nextInt(8);
    }

    private static void wildCall(EstateOffice x, Random r) {
        switch (r.nextInt(30)) {
            case 0: x.feed(any(r), any(r), any(r), any(r), any(r)); break;
            case 1: x.back(any(r)); break;
            case 2: if (r.nextInt(9) == 0) x.read(); break;
            case 3: x.place(); break;
            case 4: case 5: case 6: x.person(r.nextInt(2), any(r), any(r), any(r) * 3); break;
            case 7: x.person(any(r), any(r), any(r), any(r)); break;
            case 8: x.person(r.nextInt(2), -1, -1, r.nextInt(9)); break;
            case 9: case 10: x.mates(any(r), any(r), any(r), any(r)); break;
            case 11: case 12: x.wealth(any(r), any(r)); break;
            case 13: x.owes(any(r), any(r), any(r)); break;
            case 14: x.leaves(any(r), any(r), any(r), any(r)); break;
            case 15: case 16: x.dies(any(r)); break;
            case 17: x.settle(any(r)); break;
            case 18: x.undo(); break;
            case 19: case 20: x.would(any(r), any(r)); break;
            case 21: x.open(any(r)); break;
            case 22: x.estate(any(r)); break;
            case 23: x.got(any(r), any(r)); break;
            case 24: x.why(any(r)); break;
            case 25: x.rule(any(r)); break;
            case 26: x.kin(any(r), any(r), any(r), any(r)); break;
            case 27: x.told(any(r), any(r)); break;
            case 28: x.outside(any(r), any(r)); break;
            default: x.count(any(r));
        }
    }

    /** Each person is the child of the two ahead of it: as many ways down as there can be. */
    private static void manyLines() {
        // Sexes take turns, so that of two neighbours one is the mother and one the father.
        EstateOffice x = new EstateOffice();
        for (int p = 0; p < 30; p++) {
            int even = p % 2 == 0 ? p - 2 : p - 1;
            int odd = p % 2 == 0 ? p - 1 : p - 2;
            due("person", x.person(p % 2, odd < 0 ? -1 : odd, even < 0 ? -1 : even, p), p);
        }
        for (int p = 1; p < 29; p++) {
            x.dies(p);
        }
        due("all but the first and the last", x.settle(40), 28);
        law(x, "kin d=child;kin e=d|d.child;kin f=e|e.e|e.e.e|e.e.e.e.e.e.e.e;steps f;fixed f 1/2;rest f 1;");
        due("spent", x.would(0, 40), -2);
        law(x, "kin d=child;kin e=d|d.child;kin f=e|e.e|e.e.e|e.e.e.e.e.e.e.e;steps f;fixed f 0/1;");
        due("parts of 0 go down all the ways at once", x.would(0, 40), 0);
        due("the crown", x.estate(8), 1);
    }

    /** Rows of two that are both parents of the next two. */
    private static void ladderOfLines() {
        EstateOffice x = new EstateOffice();
        for (int p = 0; p < 30; p++) {
            int row = p - p % 2;
            due("person", x.person(p % 2, row - 1 < 0 ? -1 : row - 1, row - 2 < 0 ? -1 : row - 2, p), p);
        }
        law(x, "kin d=child;steps d;rest d 1;");
        for (int p = 1; p < 28; p++) {
            x.dies(p);
        }
        x.wealth(0, 100000);
        x.settle(40);
        for (int i = 0; i < 100; i++) {
            due("would", x.would(0, 40), 0);
        }
        due("half", x.got(28, 0), 1);
        due("half", x.got(28, 1), 2);
        due("half", x.got(29, 1), 2);
        due("by a line", x.why(29), 5);
    }

    private static void bigLaw() {
        EstateOffice x = new EstateOffice();
        for (int p = 0; p < 30; p++) {
            x.person(p % 2, -1, -1, p);
        }
        for (int i = 0; i < 60; i++) {
            x.mates(i % 30, (i + 1) % 30, 0, -1);
        }
        StringBuilder text = new StringBuilder("kin a=mate;");
        for (int k = 1; k < 20; k++) {
            char last = (char) ('a' + k - 1);
            text.append("kin ").append((char) (last + 1)).append('=');
            for (int s = 0; s < 8; s++) {
                text.append(s == 0 ? "" : ".").append(last);
            }
            text.append("|a|").append(last).append("f.a;");
        }
        // An f that is a NAME told ahead, or the end of a STEP, as it stands.
        law(x, text.toString().replace("f.a;", " f.a;"));
        due("kin", x.count(4), 20);
        for (int i = 0; i < 400; i++) {
            x.kin(19, i % 30, 40 + i % 7, 5);
        }
        due("all are kin", x.kin(19, 0, 40, 28), 29);
    }

    /** A call makes nothing: the rows of the constructor are used again. */
    private static void room() {
        com.sun.management.ThreadMXBean bean = (com.sun.management.ThreadMXBean) ManagementFactory.getThreadMXBean();
        long id = Thread.currentThread().getId();
        long ahead = bean.getThreadAllocatedBytes(id);
        EstateOffice x = new EstateOffice();
        long made = bean.getThreadAllocatedBytes(id) - ahead;
        due("a new object takes at most 200000 bytes", made <= 200000 ? 1 : 0, 1);
        for (int p = 0; p < 30; p++) {
            x.person(p % 2, -1, p == 0 ? -1 : 0, p);
        }
        law(x, "kin c=child;kin m=mate;steps c;fixed m 1/4;rest c 1;will 1/2;");
        ahead = bean.getThreadAllocatedBytes(id);
        for (int round = 0; round < 100; round++) {
            x.feed(0x6b696e20, 0x633d6368, 0x696c643b, 0x72657374, 0x20632031);
            x.feed(0x3b202020, 0x20202020, 0x20202020, 0x20202020, 0x20202020);
            x.read();
            x.wealth(0, 1000);
            x.dies(0);
            x.settle(50);
            x.open(0);
            x.got(1, 0);
            x.undo();
            x.would(0, 60);
            x.kin(0, 0, round, 0);
        }
        long taken = bean.getThreadAllocatedBytes(id) - ahead;
        due("a thousand calls take at most 20000 bytes: " + taken, taken <= 20000 ? 1 : 0, 1);
    }
}
