/** The edges that IV names, and for each fraction of III and IV the one just inside of SPENT and one outside. */
public final class EstateEdgesTest {
    private static final int SPENT = -2;
    private static final String KINS = "kin w=mate;kin s=child m;kin d=child f;kin h=father;";

    public static void main(String[] args) {
        debtsAsFarAsItGoes();
        debtsInTheirOrder();
        debtsToWhoLives();
        legaciesToWhoLives();
        boundOfTheWill();
        massAndWhatIsLeft();
        moreAtOnce();
        lowestTerms();
        spentLower();
        spentUpper();
        spentSum();
        spentLessenedPart();
        spentByAWeight();
        spentByTheSumOfParts();
        spentByTheSumToGiveBack();
        spentByTheSumByNumbers();
        spentByGivingBack();
        spentByALine();
        spentByLinesInOrder();
        spentByChildrenInOrder();
        spentByTheSumOfLegacies();
        spentByALessenedLegacy();
        spentByTheBound();
        spentByALegacy();
        spentByLegaciesToOne();
        spentByAllLegacies();
        spentByWhatIsLeft();
        spentByAnAmount();
        spentByWealth();
        spentByWealthInOrder();
        spentByEstatesInOrder();
        spentByStrangers();
        spentByTheCrown();
        spentStaysSo();
        spentIsNothing();
        Edges.end("what the edges of the estates ask");
    }

    private static void due(String what, long got, long want) {
        Edges.due(what, got, want);
    }

    private static void die(EstateOffice x, int day, int... persons) {
        for (int p : persons) {
            x.dies(p);
        }
        due("a death", x.settle(day), persons.length);
    }

    // ---- IV ----

    /** 0 has 100 and the child 1; 2, 3 are others; 4 is born on the day 50. */
    private static EstateOffice house(String law) {
        EstateOffice x = Edges.lawful(law);
        x.person(0, -1, -1, 0);
        x.person(0, -1, 0, 10);
        x.person(0, -1, -1, 10);
        x.person(0, -1, -1, 10);
        x.person(0, -1, -1, 50);
        x.wealth(0, 100);
        return x;
    }

    private static void debtsAsFarAsItGoes() {
        int[][] cases = {{99, 1, 100, 1, 0}, {99, 2, 100, 1, 0}, {98, 1, 99, 1, 1}, {100, 1, 100, 0, 0}, {101, 1, 100, 0, 0},
            {1, 98, 99, 98, 1}, {1, 100000, 100, 99, 0}};
        for (int[] c : cases) {
            EstateOffice x = house("kin c=child;rest c 1;");
            x.owes(0, 2, c[0]);
            x.owes(0, 3, c[1]);
            x.would(0, 50);
            Edges.due("debts of " + c[0] + " and " + c[1], new long[] {x.estate(0), x.got(3, 4), x.estate(4), x.got(2, 4)},
                c[2], c[3], c[4], Math.min(100, c[0]));
        }
        EstateOffice x = house("kin c=child;rest c 1;");
        x.wealth(0, 0);
        x.owes(0, 2, 1);
        x.owes(0, -1, 1);
        x.would(0, 50);
        Edges.due("without wealth", Edges.figures(x, 0, 5), 0, 1, 0, 1, 0, 1);
        Edges.due("none", new long[] {x.got(2, 4), x.got(2, 5)}, 0, 1);
    }

    private static void debtsInTheirOrder() {
        EstateOffice x = house("kin c=child;rest c 1;");
        x.owes(0, 3, 60);
        x.owes(1, 2, 60);
        x.owes(0, -1, 30);
        x.owes(0, 2, 60);
        x.owes(0, 3, 60);
        x.would(0, 50);
        Edges.due("as told, not by numbers", new long[] {x.got(3, 4), x.got(2, 4), x.estate(0)}, 60, 10, 100);
        x.wealth(0, 160);
        die(x, 50, 0);
        x.open(0);
        Edges.due("twice to one", new long[] {x.got(3, 4), x.got(2, 4), x.outside(0, 0), x.told(3, 6), x.told(1, 6)},
            70, 60, 30, 70, 0);
    }

    private static void debtsToWhoLives() {
        EstateOffice x = house("kin c=child;rest c 1;");
        x.owes(0, 4, 10);
        x.owes(0, 1, 20);
        x.owes(0, 2, 30);
        x.owes(0, 3, 5);
        x.would(0, 49);
        Edges.due("one not born", new long[] {x.estate(0), x.got(4, 4)}, 55, 0);
        x.would(0, 50);
        Edges.due("born on the day", new long[] {x.estate(0), x.got(4, 4)}, 65, 10);
        die(x, 50, 2);
        x.would(0, 50);
        Edges.due("died on the day", new long[] {x.estate(0), x.got(2, 4)}, 35, 0);
        die(x, 60, 3, 1, 0);
        x.open(0);
        Edges.due("dies with it", new long[] {x.estate(0), x.got(1, 4), x.got(3, 4), x.got(4, 4), x.outside(1, 0)},
            10, 0, 0, 10, 90);
    }

    private static void legaciesToWhoLives() {
        EstateOffice x = house("kin c=child;rest c 1;will 1/1;");
        x.leaves(0, 4, 1, 10);
        x.leaves(0, 1, 1, 5);
        x.leaves(2, 1, 1, 1);
        x.leaves(0, 2, 3, 10);
        x.leaves(0, 3, 1, 20);
        x.would(0, 49);
        Edges.due("one not born", new long[] {x.estate(2), x.got(4, 2), x.estate(4)}, 55, 0, 45);
        x.would(0, 50);
        Edges.due("born on the day", new long[] {x.estate(2), x.got(4, 2), x.estate(4)}, 65, 10, 35);
        die(x, 50, 2);
        x.would(0, 50);
        Edges.due("died on the day", new long[] {x.estate(2), x.got(2, 2), x.estate(4)}, 35, 0, 65);
        die(x, 60, 3, 1, 0);
        x.open(0);
        Edges.due("dies with it", new long[] {x.estate(2), x.got(1, 2), x.got(3, 2), x.got(4, 2), x.outside(1, 0)},
            10, 0, 0, 10, 90);
    }

    private static void boundOfTheWill() {
        // L is 3/5: the BOUND just above, the same, just below.
        String[] bounds = {"602/999", "3/5", "599/999", "0/1", "1/1"};
        long[][] due = {{20, 1, 40, 1, 60, 1}, {20, 1, 40, 1, 60, 1}, {59900, 2997, 119800, 2997, 59900, 999},
            {0, 1, 0, 1, 0, 1}, {20, 1, 40, 1, 60, 1}};
        for (int i = 0; i < bounds.length; i++) {
            EstateOffice x = house("kin c=child;rest c 1;will " + bounds[i] + ";");
            x.leaves(0, 2, 1, 5);
            x.leaves(0, 3, 1, 5);
            x.leaves(0, 3, 1, 5);
            x.would(0, 50);
            Edges.due("BOUND " + bounds[i], new long[] {x.got(2, 2), x.got(2, 3), x.got(3, 2), x.got(3, 3), x.estate(2),
                x.estate(3)}, due[i]);
        }
        // L above 1 by much.
        EstateOffice x = house("will 1/1;");
        for (int i = 0; i < 30; i++) {
            x.leaves(0, i < 27 ? 2 : 3, 1, 1);
        }
        x.would(0, 50);
        Edges.due("L is 30", new long[] {x.got(2, 2), x.got(3, 2), x.estate(2), x.estate(4)}, 90, 10, 100, 0);
        // What is left to those who do not live is not of L.
        x = house("will 1/2;");
        x.leaves(0, 4, 1, 1);
        x.leaves(0, 2, 1, 2);
        x.would(0, 49);
        Edges.due("L is 1/2", new long[] {x.got(2, 2), x.estate(2)}, 50, 50);
        x.would(0, 50);
        Edges.due("L is 3/2", new long[] {x.got(2, 2), x.got(2, 3), x.got(4, 2), x.got(4, 3), x.estate(2)}, 50, 3, 100, 3, 50);
    }

    private static void massAndWhatIsLeft() {
        EstateOffice x = house("kin c=child;fixed c 1/2;will 1/2;");
        x.owes(0, -1, 40);
        x.leaves(0, 2, 1, 3);
        x.leaves(0, 1, 1, 6);
        die(x, 50, 0);
        x.open(0);
        Edges.due("figures", Edges.figures(x, 0, 9), 40, 1, 30, 1, 30, 1, 1, 2, 1, 2);
        Edges.due("who got what", new long[] {x.told(0, 6), x.told(1, 6), x.told(2, 6), x.outside(0, 0), x.outside(1, 0)},
            0, 25, 20, 40, 15);
        Edges.due("the legacy is no part", new long[] {x.got(1, 0), x.got(1, 1), x.got(1, 2)}, 1, 2, 10);
        // All is owed: no mass, but parts and legacies stand.
        x = house("kin c=child;fixed c 1/2;will 1/2;");
        x.owes(0, 3, 100);
        x.leaves(0, 2, 1, 3);
        die(x, 50, 0);
        x.open(0);
        Edges.due("figures", Edges.figures(x, 0, 9), 100, 1, 0, 1, 0, 1, 1, 2, 1, 2);
        Edges.due("parts", new long[] {x.got(1, 0), x.got(1, 1), x.got(2, 2), x.got(2, 3), x.told(3, 6)}, 1, 2, 0, 1, 100);
    }

    private static void moreAtOnce() {
        // Two die: both leave to 3; what 3 has had is not lost.
        EstateOffice x = house("kin c=child;rest c 1;will 1/1;");
        x.wealth(2, 30);
        x.wealth(3, 7);
        x.leaves(0, 3, 1, 4);
        x.leaves(2, 3, 1, 2);
        x.owes(2, 3, 2);
        x.owes(2, 0, 9);
        x.dies(2);
        x.dies(0);
        due("settle", x.settle(50), 2);
        Edges.due("all of them", new long[] {x.told(3, 6), x.told(1, 6), x.outside(1, 0), x.told(0, 6), x.told(2, 6)},
            7 + 25 + 2 + 14, 75, 14, 0, 0);
    }

    // ---- fractions ----

    /** Person 0 takes what a gift leaves over, and has nothing then. */
    private static EstateOffice gifts() {
        EstateOffice x = Edges.lawful("will 1/1;");
        x.person(0, -1, -1, 0);
        return x;
    }

    /** A new person who has 1 divided by these: each leaves so much of its own to the next one. */
    private static int having(EstateOffice x, int... below) {
        int p = x.person(0, -1, -1, 0);
        x.wealth(p, 1);
        for (int b : below) {
            int next = x.person(0, -1, -1, 0);
            x.leaves(p, next, 1, b);
            x.leaves(p, 0, b - 1, b);
            die(x, x.count(9), p);
            x.wealth(0, 0);
            p = next;
        }
        return p;
    }

    /** All that p has goes to q. */
    private static void inherit(EstateOffice x, int p, int q) {
        x.leaves(p, q, 1, 1);
        die(x, x.count(9), p);
    }

    /** 1, who has 1, with the father 0 (h), the mate 2 (w), the son 3 (s) and the daughter 4 (d). */
    private static EstateOffice parted(String law) {
        EstateOffice x = Edges.lawful(KINS + law);
        x.person(0, -1, -1, 0);
        x.person(0, -1, 0, 20);
        x.person(1, -1, -1, 20);
        x.person(0, -1, 1, 40);
        x.person(1, -1, 1, 41);
        x.mates(1, 2, 30, -1);
        x.wealth(1, 1);
        return x;
    }

    private static void lowestTerms() {
        EstateOffice x = parted("fixed w 6/8;fixed s 50/400;");
        x.would(1, 50);
        Edges.due("shares", Edges.shares(x, 2, 3, 4, 0), 3, 4, 1, 8, 0, 1, 0, 1);
        Edges.due("sum and the crown's", Edges.figures(x, 6, 9), 7, 8, 1, 8);
        x.wealth(1, 88);
        x.leaves(1, 0, 2, 4);
        x.would(1, 50);
        Edges.due("figures", Edges.figures(x, 0, 5), 0, 1, 0, 1, 88, 1);
        die(x, 50, 1);
        Edges.due("wealth", Edges.worth(x, 3), 11, 1);
        Edges.due("the crown", new long[] {x.outside(1, 0), x.outside(1, 1)}, 11, 1);
        Edges.due("strangers", new long[] {x.outside(0, 0), x.outside(0, 1)}, 0, 1);
    }

    private static void spentLower() {
        // 1 / 1000 by 1 / 1000 is 1 / 1000000.
        EstateOffice x = gifts();
        int p = having(x, 1000);
        x.person(0, -1, p, 1);
        x.person(1, -1, p, 1);
        Edges.law(x, "kin s=child m;kin d=child f;rest s 1,d 999;");
        die(x, 5, p);
        Edges.due("a millionth", Edges.worth(x, p + 1), 1, 1000000);
        Edges.due("the others", Edges.worth(x, p + 2), 999, 1000000);
        // P / S is 8058 / 9901, and 101 * 9901 = 1000001.
        for (int below = 100; below <= 101; below++) {
            x = gifts();
            p = having(x, below);
            x.person(0, -1, p, 1);
            x.person(1, -1, p, 1);
            Edges.law(x, "kin s=child m;kin d=child f;fixed s 79/97;fixed d 19/102;");
            due("by 1 / " + below, x.would(p, 5), below == 100 ? 0 : SPENT);
        }
        Edges.due("the last one inside is not at hand", Edges.figures(x, 10, 10), -1);
        x.wealth(p, 1);
        due("of 1", x.would(p, 5), 0);
        Edges.due("parts", Edges.shares(x, p + 1, p + 2), 8058, 9901, 1843, 9901);
    }

    /** Person 1 has 1000000 + more + 1 / 1000, and leaves 997 / 999 of it to person 0. */
    private static EstateOffice rich(int more) {
        EstateOffice x = gifts();
        int heir = x.person(0, -1, -1, 0);
        for (int i = 0; i < 11; i++) {
            int p = x.person(0, -1, -1, 0);
            x.wealth(p, i < 10 ? 100000 : more);
            x.leaves(p, heir, 1, 1);
            x.dies(p);
        }
        due("settle", x.settle(0), 11);
        inherit(x, having(x, 1000), heir);
        Edges.due("wealth", Edges.worth(x, heir), (1000000 + more) * 1000L + 1, 1000);
        x.leaves(heir, 0, 997, 999);
        return x;
    }

    private static void spentUpper() {
        EstateOffice x = rich(3009);
        due("997 * 1003009001 is below 10^12", x.would(1, 5), 0);
        Edges.due("a legacy", new long[] {x.got(0, 2), x.got(0, 3)}, 999999973997L, 999000);
        x = rich(3011);
        due("997 * 1003011001 is above", x.would(1, 5), SPENT);
        due("none is at hand", x.estate(10), -1);
        // 10^12 / 999999, and 999 / 1000 of it: what is put into lowest terms is small.
        x = gifts();
        int heir = x.person(0, -1, -1, 0);
        for (int i = 0; i < 10; i++) {
            int p = x.person(0, -1, -1, 0);
            x.wealth(p, 100000);
            x.leaves(p, heir, 1, 1);
            x.dies(p);
        }
        due("settle", x.settle(0), 10);
        inherit(x, having(x), heir);
        inherit(x, having(x, 143, 7, 999), heir);
        Edges.due("10^12 above", Edges.worth(x, heir), 1000000000000L, 999999);
        x.leaves(heir, 0, 999, 1000);
        due("of the most", x.would(heir, 0), 0);
        Edges.due("lowest terms", new long[] {x.got(0, 2), x.got(0, 3)}, 1000000000, 1001);
        int more = having(x);
        x.leaves(more, heir, 1, 1);
        due("10^12 + 999999 would be above", x.would(more, 0), SPENT);
    }

    private static void spentSum() {
        EstateOffice x = parted("fixed w 1/999;fixed s 1/998;");
        due("997002 below", x.would(1, 50), 0);
        Edges.due("S", Edges.figures(x, 6, 7), 1997, 997002);
        x = parted("fixed w 1/875;fixed s 1/88;fixed d 1/12;");
        due("231000 below", x.would(1, 50), 0);
        Edges.law(x, KINS + "fixed w 1/875;fixed s 1/88;fixed d 1/13;");
        due("1001000 below", x.would(1, 50), SPENT);
        due("stays", x.estate(7), 231000);
        // On the way, in the order told: the last one would mend it.
        Edges.law(x, KINS + "fixed w 1/875;fixed s 1/88;fixed h 1/26;fixed d 6/13;");
        due("in this order", x.would(1, 50), SPENT);
        Edges.law(x, KINS + "fixed h 1/26;fixed d 6/13;fixed w 1/875;fixed s 1/88;");
        due("in that, S is inside", x.would(1, 50), 0);
        Edges.due("S", Edges.figures(x, 6, 7), 39463, 77000);
        Edges.law(x, KINS + "kin n=father.father;fixed w 1/875;fixed s 1/88;fixed n 1/13;");
        due("a fixed without HEADS counts nothing", x.would(1, 50), 0);
        Edges.due("S", Edges.figures(x, 6, 7), 963, 77000);
    }

    private static void spentLessenedPart() {
        EstateOffice x = parted("fixed w 499/997;fixed s 503/991;");
        due("P / S has 996000 below", x.would(1, 50), 0);
        Edges.due("parts", Edges.shares(x, 2, 3), 494509, 996000, 501491, 996000);
        x = parted("fixed w 499/997;fixed s 509/991;");
        due("P / S has 1001982 below", x.would(1, 50), SPENT);
        // S is not above 1: no P is lessened.
        x = parted("fixed w 499/997;fixed s 493/991;");
        due("as they are", x.would(1, 50), 0);
    }

    private static void spentByAWeight() {
        EstateOffice x = parted("fixed w 1/997;fixed h 1/991;rest s 1;");
        due("R * 1", x.would(1, 50), 0);
        Edges.due("part", Edges.shares(x, 3), 986039, 988027);
        x = parted("fixed w 1/997;fixed h 1/991;rest s 1,d 1;");
        due("R * 1/2", x.would(1, 50), SPENT);
        x = parted("fixed w 1/997;fixed h 1/991;rest s 5,d 7;");
        due("R * 5/12", x.would(1, 50), SPENT);
        x = parted("fixed w 1/999;rest s 1,d 999;");
        due("R * 1/1000 is 998/999000", x.would(1, 50), 0);
        Edges.due("part", Edges.shares(x, 3), 499, 499500);
        x = parted("fixed w 1/998;rest s 1,d 998;");
        due("R * 1/999 is 997/997002", x.would(1, 50), 0);
        x = parted("fixed w 1/995;fixed h 1/3;rest s 1,d 334;");
        due("R * 1/335 is 1987/999975", x.would(1, 50), 0);
        x = parted("fixed w 1/995;fixed h 1/3;rest s 1,d 335;");
        due("R * 1/336 is 1987/1002960", x.would(1, 50), SPENT);
    }

    private static void spentByTheSumOfParts() {
        EstateOffice x = parted("fixed w 1/997;rest w 1,s 990;");
        due("P + R / 991", x.would(1, 50), 0);
        Edges.due("part", Edges.shares(x, 2), 1987, 988027);
        x = parted("fixed w 1/997;rest w 1,s 989;");
        x.person(1, -1, -1, 20);
        x.mates(5, 1, 30, -1);
        due("1/1994 + R / 991", x.would(1, 50), SPENT);
        Edges.law(x, KINS + "fixed w 1/997;rest s 990;");
        due("1/1994 alone", x.would(1, 50), 0);
    }

    /** The B of 14 sons with 1/938 each and 15 daughters with 1/1095, in the order of their numbers. */
    private static EstateOffice twoGroups(boolean daughterAmongSons) {
        EstateOffice x = Edges.lawful("kin s=child m;kin d=child f;fixed s 1/67;fixed d 1/73;back s,d;");
        x.person(0, -1, -1, 0);
        for (int p = 1; p < 30; p++) {
            boolean daughter = daughterAmongSons ? p == 2 || p > 15 : p > 14;
            x.person(daughter ? 1 : 0, -1, 0, p);
        }
        return x;
    }

    private static void spentByTheSumToGiveBack() {
        EstateOffice x = twoGroups(false);
        due("sons first", x.would(0, 50), 0);
        Edges.due("parts", Edges.shares(x, 1, 14, 15, 29), 73, 1960, 73, 1960, 67, 2100, 67, 2100);
        x = twoGroups(true);
        due("1/938 + 1/1095 on the way", x.would(0, 50), SPENT);
        Edges.law(x, "kin s=child m;kin d=child f;fixed s 1/67;fixed d 1/73;back s;");
        due("B of the sons", x.would(0, 50), 0);
    }

    /** Two sons with 1/1028 each and two daughters with 1/1958 each, one of whom, the mate's, is to be given back to. */
    private static EstateOffice twoSons(boolean matesDaughterFirst) {
        EstateOffice x = Edges.lawful("kin s=child m;kin d=child f;kin e=mate.child f;"
            + "fixed s 1/514;fixed d 1/979;back e,s;");
        x.person(0, -1, -1, 0);
        int mate = x.person(1, -1, -1, 0);
        x.mates(0, mate, 1, -1);
        if (matesDaughterFirst) {
            x.person(1, mate, 0, 10);
        }
        x.person(0, -1, 0, 10);
        x.person(0, -1, 0, 10);
        if (!matesDaughterFirst) {
            x.person(1, mate, 0, 10);
        }
        x.person(1, -1, 0, 10);
        return x;
    }

    private static void spentByTheSumByNumbers() {
        EstateOffice x = twoSons(false);
        due("1/1028 + 1/1028 + 1/1958", x.would(0, 50), 0);
        Edges.due("parts", Edges.shares(x, 2, 3, 4, 5), 19, 48, 19, 48, 4883, 23496, 1, 1958);
        x = twoSons(true);
        due("1/1958 + 1/1028 on the way", x.would(0, 50), SPENT);
    }

    private static void spentByGivingBack() {
        EstateOffice x = parted("fixed w 1/997;fixed s 1/991;back w;");
        due("R * (P / P)", x.would(1, 50), 0);
        Edges.due("part", Edges.shares(x, 2), 990, 991);
        x = parted("fixed w 1/997;fixed s 1/991;back s,w;");
        due("R * (991/1988)", x.would(1, 50), SPENT);
        x = parted("fixed w 1/3;fixed s 1/5;back s,w;");
        due("small ones", x.would(1, 50), 0);
        Edges.due("parts", Edges.shares(x, 2, 3), 5, 8, 3, 8);
    }

    private static void spentByALine() {
        EstateOffice x = parted("fixed w 1/997;fixed h 1/991;rest s 1;steps s;");
        x.person(0, -1, 3, 60);
        x.person(0, -1, 3, 70);
        die(x, 60, 3);
        due("R for one of a line", x.would(1, 69), 0);
        Edges.due("all of it", Edges.shares(x, 5, 6), 986039, 988027, 0, 1);
        due("R for two of a line", x.would(1, 70), SPENT);
        due("stays", x.estate(11), 69);
    }

    /** d's mates, all dead: two of SEX 1 with 1/1994 each and one of SEX 0 with 1/991, all of whom have one heir. */
    private static EstateOffice threeAncestors(boolean fatherFirst) {
        EstateOffice x = Edges.lawful("kin a=mate f;kin b=mate m;steps a;steps b;fixed a 1/997;fixed b 1/991;");
        x.person(0, -1, -1, 0);
        int father = fatherFirst ? 1 : 3;
        int grandmother = fatherFirst ? 2 : 1;
        int mother = fatherFirst ? 3 : 2;
        for (int p = 1; p <= 3; p++) {
            x.person(p == father ? 0 : 1, p == mother ? grandmother : -1, -1, p == mother ? 5 : 0);
        }
        x.person(0, mother, father, 30);
        for (int p = 1; p <= 3; p++) {
            x.mates(0, p, 1, -1);
        }
        die(x, 40, 1, 2, 3);
        return x;
    }

    private static void spentByLinesInOrder() {
        EstateOffice x = threeAncestors(false);
        due("1/1994 + 1/1994 + 1/991", x.would(0, 50), 0);
        Edges.due("all by lines", new long[] {x.got(4, 0), x.got(4, 1), x.why(4)}, 1988, 988027, 5);
        x = threeAncestors(true);
        due("1/991 + 1/1994 on the way", x.would(0, 50), SPENT);
    }

    /**
     * The heir of two children of a dead one with 2/991: of the mother's one too, who has 1/1994, alone; of the
     * other one beside a second heir. Their lines may be longer by one.
     */
    private static EstateOffice twoChildren(boolean mothersFirst, boolean firstIsLong) {
        EstateOffice x = Edges.lawful("kin a=mate f;kin b=mate m;steps a;steps b;fixed a 1/997;fixed b 2/991;");
        x.person(0, -1, -1, 0);
        x.person(1, -1, -1, 0);
        x.person(0, -1, -1, 0);
        x.person(1, -1, -1, 0);
        for (int p = 1; p <= 3; p++) {
            x.mates(0, p, 1, -1);
        }
        int first = x.person(0, mothersFirst ? 1 : -1, 2, 10);
        int second = x.person(1, mothersFirst ? -1 : 1, 2, 10);
        int father = firstIsLong ? x.person(0, -1, first, 20) : first;
        x.person(0, second, father, 30);
        x.person(0, mothersFirst ? second : -1, mothersFirst ? -1 : father, 30);
        die(x, 40, 1, 2, first, second);
        if (firstIsLong) {
            die(x, 40, father);
        }
        return x;
    }

    private static void spentByChildrenInOrder() {
        for (int i = 0; i < 2; i++) {
            boolean isLong = i == 1;
            EstateOffice x = twoChildren(false, isLong);
            due("1/1994 + 1/1982 + 1/991", x.would(0, 50), 0);
            int heir = isLong ? 7 : 6;
            Edges.due("by lines", Edges.shares(x, 3, heir, heir + 1), 1, 1994, 1991, 988027, 1, 1982);
            x = twoChildren(true, isLong);
            due("1/1994 + 1/991 on the way", x.would(0, 50), SPENT);
        }
        // A dead child's line goes ahead of a living child with a higher number, though that is nearer.
        EstateOffice x = Edges.lawful("kin a=mate f;kin b=mate m;steps a;steps b;fixed a 1/997;fixed b 2/991;");
        x.person(0, -1, -1, 0);
        x.person(1, -1, -1, 0);
        x.person(0, -1, -1, 0);
        x.mates(0, 1, 1, -1);
        x.mates(0, 2, 1, -1);
        x.person(1, 1, 2, 10);
        x.person(0, 3, 2, 30);
        x.person(0, 3, -1, 30);
        die(x, 40, 1, 2, 3);
        due("1/1994 + 1/1982, by the line, + 1/991", x.would(0, 50), 0);
        Edges.due("by lines", Edges.shares(x, 4, 5), 1991, 988027, 994, 988027);
    }

    // ---- legacies ----

    /** 0 leaves these parts to 1, 2 and so on. */
    private static EstateOffice willed(String law, int... parts) {
        EstateOffice x = Edges.lawful(law);
        for (int p = 0; p < 6; p++) {
            x.person(0, -1, -1, 0);
        }
        for (int i = 0; i < parts.length; i += 2) {
            x.leaves(0, 1 + i / 2, parts[i], parts[i + 1]);
        }
        return x;
    }

    private static void spentByTheSumOfLegacies() {
        EstateOffice x = willed("will 1/1;", 1, 1000, 1, 77, 1, 12);
        due("L has 231000 below", x.would(0, 5), 0);
        x = willed("will 1/1;", 1, 1000, 1, 77, 1, 13);
        due("L has 1001000 below", x.would(0, 5), SPENT);
        x = willed("will 1/1;", 1, 1000, 1, 77, 1, 26, 6, 13);
        due("on the way, in the order told", x.would(0, 5), SPENT);
        x = willed("will 1/1;", 1, 26, 6, 13, 1, 1000, 1, 77);
        due("in another order", x.would(0, 5), 0);
        x = willed("will 1/1;", 1, 1000, 1, 77, 1, 13);
        die(x, 5, 3);
        due("without the one who died", x.would(0, 5), 0);
    }

    private static void spentByALessenedLegacy() {
        EstateOffice x = willed("", 1, 991, 990, 997);
        due("l / L has 982087 below", x.would(0, 5), 0);
        x = willed("", 990, 991, 989, 997);
        due("l / L has 1967129 below, though the BOUND is 0", x.would(0, 5), SPENT);
        x = willed("will 1/1;", 990, 991, 989, 997);
        due("and 1 as well", x.would(0, 5), SPENT);
        x = willed("will 1/1;", 990, 991, 7, 997);
        due("L is not above the BOUND", x.would(0, 5), 0);
    }

    private static void spentByTheBound() {
        EstateOffice x = willed("will 1/504;", 1, 1, 990, 991);
        due("991/1981 * 1/504 has 998424 below", x.would(0, 5), 0);
        x = willed("will 1/505;", 1, 1, 990, 991);
        due("991/1981 * 1/505 has 1000405 below", x.would(0, 5), SPENT);
    }

    private static void spentByALegacy() {
        for (int below = 999; below <= 1000; below++) {
            EstateOffice x = gifts();
            int p = having(x, 143, 7);
            x.leaves(p, 0, 1, below);
            due("M * l has " + 1001 * below + " below", x.would(p, 5), below == 999 ? 0 : SPENT);
        }
    }

    private static void spentByLegaciesToOne() {
        EstateOffice x = gifts();
        int p = having(x, 2);
        int q = having(x);
        x.wealth(q, 0);
        x.leaves(p, q, 1, 998);
        x.leaves(p, q, 1, 998);
        x.leaves(p, q, 1, 997);
        due("1/1996 + 1/1996 + 1/1994", x.would(p, 5), 0);
        Edges.due("together", new long[] {x.got(q, 2), x.got(q, 3)}, 748, 497503);
        // The same with 1/1996 had ahead, the second to another one: its WEALTH stays inside, its legacies do not.
        x = gifts();
        p = having(x, 2);
        q = having(x, 2, 998);
        Edges.due("wealth", Edges.worth(x, q), 1, 1996);
        x.leaves(p, q, 1, 998);
        x.leaves(p, 0, 1, 998);
        due("with one", x.would(p, 5), 0);
        x.leaves(p, q, 1, 997);
        due("1/1996 + 1/1994 added up", x.would(p, 5), SPENT);
    }

    private static void spentByAllLegacies() {
        EstateOffice x = gifts();
        int p = having(x, 2);
        int q = having(x);
        x.leaves(p, 0, 1, 997);
        due("M * L", x.would(p, 5), 0);
        x.wealth(q, 0);
        x.leaves(p, q, 2, 991);
        due("M * L has 1976054 below", x.would(p, 5), SPENT);
        x.wealth(p, 1);
        due("with a M of 1 it has not", x.would(p, 5), 0);
        Edges.due("all", Edges.figures(x, 2, 5), 2985, 988027, 985042, 988027);
    }

    private static void spentByWhatIsLeft() {
        EstateOffice x = gifts();
        int p = having(x, 2);
        int q = having(x);
        x.wealth(q, 0);
        x.leaves(p, 0, 1, 997);
        x.leaves(p, q, 1, 991);
        due("M * L has 988027 below, M - (M * L) 1976054", x.would(p, 5), SPENT);
        x.wealth(p, 1);
        due("M is 1", x.would(p, 5), 0);
        Edges.due("left", Edges.figures(x, 4, 5), 986039, 988027);
    }

    private static void spentByAnAmount() {
        for (int weight = 998; weight <= 999; weight++) {
            EstateOffice x = gifts();
            int p = having(x, 143, 7);
            x.person(0, -1, p, 1);
            x.person(1, -1, p, 1);
            Edges.law(x, "kin s=child m;kin d=child f;rest s 1,d " + weight + ";");
            due("1/1001 by weights of " + weight, x.would(p, 5), weight == 998 ? 0 : SPENT);
        }
        // Of 1 / 1001 and of 1 / 1002 the heir has 1 / 999, and the CROWN the rest.
        for (int last = 6; last <= 7; last++) {
            EstateOffice x = gifts();
            int p = having(x, last == 7 ? 143 : 167, last);
            x.person(0, -1, p, 1);
            Edges.law(x, "kin c=child;fixed c 1/999;");
            due("the CROWN's", x.would(p, 5), last == 7 ? 0 : SPENT);
            Edges.law(x, "kin c=child;fixed c 1/997;");
            due("the CROWN's", x.would(p, 5), 0);
        }
    }

    private static void spentByWealth() {
        for (int below = 999; below <= 1000; below++) {
            EstateOffice x = gifts();
            int q = having(x, 143, 7);
            int p = having(x, below);
            x.leaves(p, q, 1, 1);
            due("1/1001 + 1/" + below, x.would(p, 5), below == 999 ? 0 : SPENT);
            x.dies(p);
            due("1/1001 + 1/" + below, x.settle(5), below == 999 ? 1 : SPENT);
            Edges.due("wealth", Edges.worth(x, q), below == 999 ? 2000 : 1, below == 999 ? 999999 : 1001);
        }
    }

    /** One has 1, and leaves a part of it to its mate, who has 1/1996, and gets a part of the rest. */
    private static EstateOffice toTheMate(String fixedPart, int above, int below) {
        EstateOffice x = gifts();
        int q = having(x, 2, 998);
        int p = x.person(0, -1, -1, 0);
        x.wealth(p, 1);
        x.mates(p, q, 0, -1);
        x.leaves(p, q, above, below);
        Edges.law(x, "kin m=mate;fixed m " + fixedPart + ";will 1/1;");
        x.dies(p);
        return x;
    }

    private static void spentByWealthInOrder() {
        EstateOffice x = toTheMate("4/991", 1, 4);
        due("1/1996 + 1/4 + 3/991", x.settle(5), 1);
        Edges.due("wealth", Edges.worth(x, x.count(0) - 2), 125 * 991 + 3 * 499, 499 * 991);
        x = toTheMate("1/4", 4, 991);
        due("the legacy first: 1/1996 + 4/991 on the way, then 987/3964", x.settle(5), SPENT);
        x.wealth(x.count(0) - 2, 0);
        due("4/991 + 987/3964", x.settle(5), 1);
    }

    /** Each of four has 1 and leaves this part of it to 0, the rest goes to its child. */
    private static EstateOffice fourDeaths(int... parts) {
        EstateOffice x = Edges.lawful("kin c=child;rest c 1;will 1/1;");
        for (int p = 0; p <= 4; p++) {
            x.person(0, -1, -1, 0);
        }
        for (int p = 1; p <= 4; p++) {
            x.person(0, -1, p, 1);
            x.wealth(p, 1);
            x.leaves(p, 0, parts[2 * p - 2], parts[2 * p - 1]);
        }
        return x;
    }

    private static void spentByEstatesInOrder() {
        EstateOffice x = fourDeaths(1, 26, 6, 13, 1, 1000, 1, 77);
        for (int p = 4; p >= 1; p--) {
            x.dies(p);
        }
        due("1/26 + 6/13 + 1/1000 + 1/77, by numbers", x.settle(5), 4);
        Edges.due("wealth", Edges.worth(x, 0), 39577, 77000);
        x = fourDeaths(1, 1000, 1, 77, 1, 26, 6, 13);
        for (int p = 4; p >= 1; p--) {
            x.dies(p);
        }
        due("1/1000 + 1/77 + 1/26 on the way", x.settle(5), SPENT);
        due("they are listed", x.count(6), 4);
    }

    private static void spentByStrangers() {
        for (int below = 999; below <= 1000; below++) {
            EstateOffice x = gifts();
            int p = having(x, 143, 7);
            x.owes(p, -1, 1);
            die(x, 5, p);
            int q = having(x, below);
            x.owes(q, -1, 5);
            due("1/1001 + 1/" + below, x.would(q, 5), below == 999 ? 0 : SPENT);
            x.dies(q);
            due("1/1001 + 1/" + below, x.settle(5), below == 999 ? 1 : SPENT);
            due("strangers", x.outside(0, 1), below == 999 ? 999999 : 1001);
        }
    }

    private static void spentByTheCrown() {
        for (int below = 999; below <= 1000; below++) {
            EstateOffice x = gifts();
            die(x, 5, having(x, 143, 7));
            int q = having(x, below);
            due("1/1001 + 1/" + below, x.would(q, 5), below == 999 ? 0 : SPENT);
            x.dies(q);
            due("1/1001 + 1/" + below, x.settle(5), below == 999 ? 1 : SPENT);
            due("the crown", x.outside(1, 1), below == 999 ? 999999 : 1001);
            x.undo();
            due("taken back", x.outside(1, 1), 1001);
        }
    }

    private static void spentStaysSo() {
        // Whatever comes behind it or is added to it.
        for (int below = 1; below <= 12; below++) {
            for (int above = 1; above <= below; above++) {
                EstateOffice x = willed("will 1/1;", 1, 1000, 1, 77, 1, 13, above, below);
                due("L with " + above + "/" + below + " behind", x.would(0, 5), SPENT);
                x = parted("fixed w 1/875;fixed s 1/88;fixed d 1/13;fixed h " + above + "/" + below + ";");
                due("S with " + above + "/" + below + " behind", x.would(1, 50), SPENT);
            }
            // M * L is SPENT, and no legacy is: what is left of M is, too.
            EstateOffice x = gifts();
            int p = x.person(0, -1, -1, 0);
            int q = x.person(0, -1, -1, 0);
            x.wealth(p, 2);
            x.leaves(p, q, 1, below);
            x.leaves(p, 0, below - 1, below);
            die(x, 5, p);
            x.wealth(0, 0);
            int r = x.person(0, -1, -1, 0);
            x.leaves(q, 0, 1, 997);
            x.leaves(q, r, 1, 991);
            due("2 / " + below, x.would(q, 5), below <= 2 ? 0 : SPENT);
        }
        // Amounts of 1/1001 * 1/1000 and 1/1001 * 999/1000 to who has 1/3 each.
        EstateOffice x = gifts();
        int p = having(x, 143, 7);
        int son = x.person(0, -1, p, 1);
        int daughter = x.person(1, -1, p, 1);
        Edges.law(x, "kin s=child m;kin d=child f;rest s 1,d 999;will 1/1;");
        for (int heir = son; heir <= daughter; heir++) {
            int q = x.person(0, -1, -1, 0);
            x.wealth(q, 1);
            x.leaves(q, heir, 1, 3);
            x.leaves(q, 0, 2, 3);
            die(x, 5, q);
            Edges.due("wealth", Edges.worth(x, heir), 1, 3);
        }
        due("more by what is SPENT", x.would(p, 5), SPENT);
    }

    // ---- then nothing happens ----

    /** 1 has 1/1001, 2 has 1/1000; 3 is listed with something to part; the ESTATE of a dead one is at hand. */
    private static void aheadOfSpent(EstateOffice x) {
        Edges.law(x, "will 1/1;");
        x.person(0, -1, -1, 0);
        x.person(1, -1, -1, 0);
        x.wealth(1, 1);
        x.person(0, 1, -1, 3);
        x.person(0, -1, -1, 0);
        x.leaves(1, 2, 1, 1000);
        x.leaves(1, 3, 999, 1000);
        x.dies(1);
        due("settle", x.settle(4), 1);
        x.open(1);
        x.wealth(3, 77);
        x.dies(0);
        x.dies(3);
        x.wealth(0, 1000);
        x.owes(0, -1, 30);
        x.leaves(0, 2, 1, 7);
        x.leaves(3, 2, 1, 143);
    }

    private static void spentIsNothing() {
        // 0 gives 970/7 to 2, which has 1/1000; 3 gives 7/13: 91000 below. Inside.
        EstateOffice x = new EstateOffice();
        aheadOfSpent(x);
        due("inside", x.settle(9), 2);
        // The first ESTATE is well, the second one is not.
        Edges.Calls ahead = y -> {
            aheadOfSpent(y);
            y.leaves(3, 2, 1, 997);
        };
        Edges.nothingHappens("settle", ahead, y -> y.settle(9), SPENT);
        Edges.nothingHappens("would", ahead, y -> y.would(3, 9), SPENT);
        Edges.nothingHappens("would of the other, and the old one opened", ahead,
            y -> y.would(0, 9) == 0 && y.open(1) ? 1 : 0, 1);
        // SPENT by a part, when the debts are paid already.
        ahead = y -> {
            aheadOfSpent(y);
            y.person(0, -1, 0, 2);
            y.person(1, -1, 0, 2);
            y.person(0, -1, 3, 2);
            Edges.law(y, "kin s=child m;kin d=child f;fixed s 1/997;fixed d 1/991;rest d 1,s 1;will 1/1;");
        };
        Edges.nothingHappens("settle, by a part", ahead, y -> y.settle(9), SPENT);
        Edges.nothingHappens("would, by a part", ahead, y -> y.would(0, 9), SPENT);
    }
}
