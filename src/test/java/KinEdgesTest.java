/** The edges that III names: who is a KIN, a HEAD, BARRED, and who has which part. */
public final class KinEdgesTest {
    public static void main(String[] args) {
        bornByTheDay();
        onDayZero();
        eachStepToTheBorn();
        matesOnTheDayAhead();
        livingOrDead();
        butForD();
        namesLeaveOutTheirOwn();
        endsOfSteps();
        eachOnce();
        headsLive();
        headsByLines();
        stepsAreOfOneKin();
        longestLine();
        linesEnd();
        barredByAnother();
        barredSecondKin();
        barsOfHeadsAlone();
        barredPersonZero();
        nothingOfOlderEstates();
        fixedForHeads();
        fixedCounts();
        ifAndNot();
        sumOfOne();
        sumAboveOne();
        restOfNothing();
        firstRest();
        weightsOfHeads();
        firstBack();
        backInMeasure();
        backToPersonZero();
        crown();
        partsOfLines();
        whysAndRules();
        Edges.end("what the edges of the kin ask");
    }

    private static void due(String what, long got, long want) {
        Edges.due(what, got, want);
    }

    private static void shares(String what, EstateOffice x, int[] persons, long... want) {
        Edges.due(what, Edges.shares(x, persons), want);
    }

    private static int[] of(int... persons) {
        return persons;
    }

    /** 0 is the father of 1 .. n, born on the days 1 .. n; the last ones are of SEX 1. */
    private static EstateOffice children(int n, int daughters, String law) {
        EstateOffice x = Edges.lawful(law);
        x.person(0, -1, -1, 0);
        for (int p = 1; p <= n; p++) {
            x.person(p > n - daughters ? 1 : 0, -1, 0, p);
        }
        return x;
    }

    private static void die(EstateOffice x, int day, int... persons) {
        for (int p : persons) {
            x.dies(p);
        }
        due("a death", x.settle(day), persons.length);
    }

    // ---- KIN ----

    private static void bornByTheDay() {
        EstateOffice x = Edges.lawful("kin c=child;kin o=mother;kin f=father;kin a=mate;kin n=a;kin g=child.child;");
        x.person(1, -1, -1, 10);
        x.person(0, -1, -1, 11);
        x.person(0, 0, 1, 50);
        x.person(1, -1, -1, 60);
        x.person(0, 3, 2, 70);
        x.mates(2, 3, 0, -1);
        Edges.due("child: the day ahead", Edges.kinOf(x, 0, 0, 49));
        Edges.due("child: the day", Edges.kinOf(x, 0, 0, 50), 2);
        Edges.due("mother: the day ahead", Edges.kinOf(x, 1, 2, 9));
        Edges.due("mother: the day, its own not born", Edges.kinOf(x, 1, 2, 10), 0);
        Edges.due("father: the day ahead", Edges.kinOf(x, 2, 2, 10));
        Edges.due("father: the day", Edges.kinOf(x, 2, 2, 11), 1);
        Edges.due("mate: the day ahead", Edges.kinOf(x, 3, 2, 59));
        Edges.due("mate: the day", Edges.kinOf(x, 3, 2, 60), 3);
        Edges.due("mate of one not born", Edges.kinOf(x, 3, 3, 50), 2);
        Edges.due("NAME: the day ahead", Edges.kinOf(x, 4, 2, 59));
        Edges.due("NAME: the day", Edges.kinOf(x, 4, 2, 60), 3);
        Edges.due("two STEPS: the day ahead", Edges.kinOf(x, 5, 0, 69));
        Edges.due("two STEPS: the day", Edges.kinOf(x, 5, 0, 70), 4);
        Edges.due("unknown parents", new long[] {x.kin(1, 0, 90, 0), x.kin(2, 0, 90, 0), x.kin(1, 4, 90, 0),
            x.kin(2, 4, 90, 0)}, -1, -1, 3, 2);
    }

    private static void onDayZero() {
        // Each question of day 0 sees what was told just ahead of it.
        EstateOffice x = Edges.lawful("kin o=mother;kin f=father;kin a=mate;kin c=child;");
        x.person(1, -1, -1, 0);
        x.person(0, -1, -1, 0);
        Edges.due("of one without parents", new long[] {x.kin(0, 1, 0, 0), x.kin(1, 1, 0, 0)}, -1, -1);
        x.person(0, 0, 1, 5);
        Edges.due("parents born on it", new long[] {x.kin(0, 2, 0, 0), x.kin(1, 2, 0, 0)}, 0, 1);
        Edges.due("the child is not", new long[] {x.kin(3, 0, 0, 0), x.kin(3, 0, 5, 0)}, -1, 2);
        x.mates(0, 1, 0, -1);
        Edges.due("the day ahead is none for MATES", new long[] {x.kin(2, 0, 0, 0), x.kin(2, 0, 1, 0)}, -1, 1);
        x.kin(0, 2, 0, 0);
        Edges.law(x, "kin f=father;");
        Edges.due("by the new law", new long[] {x.kin(0, 2, 0, 0), x.kin(1, 2, 0, 0)}, 1, -1);
    }

    private static void eachStepToTheBorn() {
        EstateOffice x = Edges.lawful("kin a=mate.mate;kin b=mate|mate.mate;kin c=mate;kin d=c.c;");
        x.person(0, -1, -1, 0);
        x.person(0, -1, -1, 9);
        x.person(0, -1, -1, 0);
        x.mates(0, 1, 0, -1);
        x.mates(1, 2, 0, -1);
        Edges.due("none between is born", Edges.kinOf(x, 0, 0, 8));
        Edges.due("one between is", Edges.kinOf(x, 0, 0, 9), 2);
        Edges.due("two PATHS", Edges.kinOf(x, 1, 0, 8));
        Edges.due("two PATHS", Edges.kinOf(x, 1, 0, 9), 1, 2);
        Edges.due("by NAMES", Edges.kinOf(x, 3, 0, 8));
        Edges.due("by NAMES", Edges.kinOf(x, 3, 0, 9), 2);
    }

    private static void matesOnTheDayAhead() {
        EstateOffice x = Edges.lawful("kin a=mate;rest a 1;");
        for (int p = 0; p < 6; p++) {
            x.person(0, -1, -1, 0);
        }
        x.mates(0, 1, 20, 30);
        x.mates(2, 0, 30, 31);
        x.mates(0, 3, 99999, 100000);
        x.mates(0, 4, 100000, -1);
        x.mates(5, 0, 0, 1);
        Edges.due("day 0 has none ahead", Edges.kinOf(x, 0, 0, 0));
        Edges.due("from 0, the day 1", Edges.kinOf(x, 0, 0, 1), 5);
        Edges.due("until 1, the day 2", Edges.kinOf(x, 0, 0, 2));
        Edges.due("from 20, the day 20", Edges.kinOf(x, 0, 0, 20));
        Edges.due("from 20, the day 21", Edges.kinOf(x, 0, 0, 21), 1);
        Edges.due("until 30, the day 30", Edges.kinOf(x, 0, 0, 30), 1);
        Edges.due("until 30, the day 31", Edges.kinOf(x, 0, 0, 31), 2);
        Edges.due("until 31, the day 32", Edges.kinOf(x, 0, 0, 32));
        Edges.due("from 99999, the day 99999", Edges.kinOf(x, 0, 0, 99999));
        Edges.due("from 99999, the day 100000", Edges.kinOf(x, 0, 0, 100000), 3);
        int[] days = {20, 21, 30, 31, 32};
        int[] heirs = {-1, 1, 1, 2, -1};
        for (int i = 0; i < days.length; i++) {
            x.would(0, days[i]);
            for (int q = 1; q < 6; q++) {
                due("the heir of day " + days[i], x.got(q, 0), q == heirs[i] ? 1 : 0);
            }
        }
        // Twice MATES with days between, and MATES for ever beside.
        x = Edges.lawful("kin a=mate;");
        x.person(0, -1, -1, 0);
        x.person(0, -1, -1, 0);
        x.mates(0, 1, 5, 7);
        x.mates(1, 0, 9, -1);
        long[] on = new long[7];
        for (int day = 5; day <= 11; day++) {
            on[day - 5] = x.kin(0, 0, day, 0);
        }
        Edges.due("days 5 to 11", on, -1, 1, 1, -1, -1, 1, 1);
    }

    private static void livingOrDead() {
        EstateOffice x = Edges.lawful("kin a=mate;kin c=child;kin g=c.c;kin o=mate.child;");
        x.person(0, -1, -1, 0);
        x.person(1, -1, -1, 0);
        x.person(0, 1, -1, 20);
        x.person(0, -1, 2, 40);
        x.mates(0, 1, 10, -1);
        die(x, 50, 1, 2);
        Edges.due("a dead mate", Edges.kinOf(x, 0, 0, 60), 1);
        Edges.due("of a dead one", Edges.kinOf(x, 0, 1, 60), 0);
        Edges.due("a dead child", Edges.kinOf(x, 1, 1, 60), 2);
        Edges.due("over a dead one", Edges.kinOf(x, 2, 1, 60), 3);
        Edges.due("over a dead mate", Edges.kinOf(x, 3, 0, 60), 2);
    }

    private static void butForD() {
        EstateOffice x = Edges.lawful("kin a=mother.child;kin b=child.mother;kin c=child.mother.child;kin d=mate.mate;"
            + "kin e=mother.child.child;");
        x.person(1, -1, -1, 0);
        x.person(0, 0, -1, 10);
        x.person(0, 0, -1, 11);
        x.person(0, -1, 1, 30);
        x.mates(1, 2, 0, -1);
        Edges.due("not itself", Edges.kinOf(x, 0, 1, 50), 2);
        Edges.due("itself alone is none", Edges.kinOf(x, 1, 0, 50));
        Edges.due("over itself", Edges.kinOf(x, 2, 0, 50), 1, 2);
        Edges.due("there and back", Edges.kinOf(x, 3, 1, 50));
        Edges.due("its own child over itself", Edges.kinOf(x, 4, 1, 50), 3);
    }

    private static void namesLeaveOutTheirOwn() {
        EstateOffice x = Edges.lawful("kin s=mother.child;kin t=s.s;kin u=mother.child.mother.child;kin p=mother;"
            + "kin v=child.p.child;kin w=child.s;");
        x.person(1, -1, -1, 0);
        x.person(0, 0, -1, 10);
        x.person(0, 0, -1, 11);
        Edges.due("of two", Edges.kinOf(x, 0, 1, 50), 2);
        Edges.due("the other one's other one is itself", Edges.kinOf(x, 1, 1, 50));
        Edges.due("without a NAME none is left out on the way", Edges.kinOf(x, 2, 1, 50), 2);
        x.person(0, 0, -1, 12);
        Edges.due("of three", Edges.kinOf(x, 1, 1, 50), 2, 3);
        Edges.due("the first one is not left out by a NAME behind", Edges.kinOf(x, 4, 0, 50), 1, 2, 3);
        Edges.due("each from its own", Edges.kinOf(x, 5, 0, 50), 1, 2, 3);
        EstateOffice y = Edges.lawful("kin s=mother.child;kin w=child.s;");
        y.person(1, -1, -1, 0);
        y.person(0, 0, -1, 10);
        Edges.due("an only child is left out", Edges.kinOf(y, 1, 0, 50));
    }

    private static void endsOfSteps() {
        EstateOffice x = Edges.lawful("kin a=child m;kin b=child f;kin c=mother m|father f;kin d=mother f;kin e=father m;"
            + "kin g=mate m;kin h=mate f;kin i=child;kin j=i m;kin k=i f;kin l=child m.child f|child f.child m;");
        x.person(0, -1, -1, 0);
        x.person(1, -1, -1, 0);
        x.person(0, 1, 0, 10);
        x.person(1, 1, 0, 11);
        x.person(1, -1, 2, 30);
        x.person(0, -1, 2, 31);
        x.person(0, 3, -1, 32);
        x.person(1, 3, -1, 33);
        x.mates(0, 1, 0, -1);
        x.mates(0, 2, 0, -1);
        Edges.due("child m", Edges.kinOf(x, 0, 0, 50), 2);
        Edges.due("child f", Edges.kinOf(x, 1, 0, 50), 3);
        Edges.due("mother m, father f", Edges.kinOf(x, 2, 2, 50));
        Edges.due("mother f", Edges.kinOf(x, 3, 2, 50), 1);
        Edges.due("father m", Edges.kinOf(x, 4, 2, 50), 0);
        Edges.due("mate m", Edges.kinOf(x, 5, 0, 50), 2);
        Edges.due("mate f", Edges.kinOf(x, 6, 0, 50), 1);
        Edges.due("NAME m", Edges.kinOf(x, 8, 0, 50), 2);
        Edges.due("NAME f", Edges.kinOf(x, 9, 0, 50), 3);
        Edges.due("of each STEP its own", Edges.kinOf(x, 10, 0, 50), 4, 6);
    }

    private static void eachOnce() {
        EstateOffice x = Edges.lawful("kin a=child|child|mate.child;fixed a 1/3;rest a 5;");
        x.person(0, -1, -1, 0);
        x.person(1, -1, -1, 0);
        x.person(0, 1, 0, 10);
        x.person(0, 1, 0, 11);
        x.mates(0, 1, 0, -1);
        x.mates(0, 1, 1, -1);
        Edges.due("by three PATHS", Edges.kinOf(x, 0, 0, 50), 2, 3);
        x.would(0, 50);
        shares("a half each", x, of(2, 3), 1, 2, 1, 2);
        Edges.due("the sum", Edges.figures(x, 6, 7), 1, 3);
    }

    // ---- HEADS ----

    private static void headsLive() {
        EstateOffice x = children(3, 0, "kin c=child;rest c 1;");
        x.would(0, 2);
        shares("born on the day", x, of(1, 2, 3), 1, 2, 1, 2, 0, 1);
        x.would(0, 1);
        shares("not born", x, of(1, 2, 3), 1, 1, 0, 1, 0, 1);
        Edges.due("the day ahead of all births", new long[] {x.would(0, 0), x.estate(8)}, 0, 1);
        die(x, 5, 2);
        x.would(0, 5);
        shares("died on the day", x, of(1, 2, 3), 1, 2, 0, 1, 1, 2);
        die(x, 6, 0, 1);
        x.open(0);
        shares("dies with it", x, of(1, 2, 3), 0, 1, 0, 1, 1, 1);
        Edges.due("no HEADS", Edges.whys(x, 1, 2, 3), 0, 0, 3);
    }

    /** 0 with the children 1, 2; 1 with the children 3, 4; 3 with the child 5. */
    private static EstateOffice threeRows(String law) {
        EstateOffice x = children(2, 0, law);
        x.person(0, -1, 1, 20);
        x.person(0, -1, 1, 21);
        x.person(0, -1, 3, 40);
        return x;
    }

    private static void headsByLines() {
        String law = "kin c=child;steps c;rest c 1;";
        EstateOffice x = threeRows(law);
        x.would(0, 50);
        shares("who lives has its own", x, of(1, 2, 3, 4, 5), 1, 2, 1, 2, 0, 1, 0, 1, 0, 1);
        die(x, 50, 1);
        x.would(0, 50);
        shares("its children that live", x, of(1, 2, 3, 4, 5), 0, 1, 1, 2, 1, 4, 1, 4, 0, 1);
        die(x, 51, 3);
        x.would(0, 51);
        shares("or have such a child", x, of(1, 2, 3, 4, 5), 0, 1, 1, 2, 0, 1, 1, 4, 1, 4);
        die(x, 52, 5);
        x.would(0, 52);
        shares("not one without", x, of(1, 2, 3, 4, 5), 0, 1, 1, 2, 0, 1, 1, 2, 0, 1);
        die(x, 53, 4);
        x.would(0, 53);
        shares("no line, no HEAD", x, of(1, 2, 3, 4, 5), 0, 1, 1, 1, 0, 1, 0, 1, 0, 1);
        Edges.due("nor anything", Edges.whys(x, 1, 2, 3, 4, 5), 0, 3, 0, 0, 0);
        die(x, 54, 2);
        x.would(0, 54);
        Edges.due("the crown", Edges.figures(x, 8, 12), 1, 1, 0, 54, -1);
        x.person(1, -1, 5, 60);
        x.would(0, 59);
        due("a child not born is no line", x.estate(8), 1);
        x.would(0, 60);
        shares("born on the day it is", x, of(1, 2, 3, 4, 5, 6), 0, 1, 0, 1, 0, 1, 0, 1, 0, 1, 1, 1);
        Edges.due("by a line", Edges.whys(x, 1, 3, 5, 6), 3, 0, 0, 5);
    }

    private static void stepsAreOfOneKin() {
        EstateOffice x = threeRows("kin c=child;kin d=c;kin e=child;steps c;rest d 1;rest e 1;");
        die(x, 50, 1, 2);
        x.would(0, 50);
        due("another KIN of the same PERSONS is none by STEPS", x.estate(8), 1);
        due("but it is a HEAD of some KIN", x.why(1), 4);
        due("and 2 is none", x.why(2), 0);
        Edges.law(x, "kin c=child;kin d=c;steps d;rest d 1;");
        x.would(0, 50);
        shares("this one is", x, of(3, 4, 5), 1, 2, 1, 2, 0, 1);
    }

    private static void longestLine() {
        EstateOffice x = Edges.lawful("kin c=child;steps c;rest c 1;");
        for (int p = 0; p < 30; p++) {
            x.person(0, -1, p - 1, p);
        }
        for (int p = 1; p < 29; p++) {
            x.dies(p);
        }
        due("28 die", x.settle(28), 28);
        x.wealth(0, 90);
        Edges.due("the last one is not born", new long[] {x.would(0, 28), x.estate(8)}, 0, 1);
        Edges.due("born", new long[] {x.would(0, 29), x.estate(8), x.got(29, 0), x.got(29, 1), x.why(1), x.why(29)},
            0, 0, 1, 1, 3, 5);
        die(x, 29, 0);
        Edges.due("all down the line", Edges.worth(x, 29), 90, 1);
        x.undo();
        die(x, 29, 0, 29);
        due("none is left", x.outside(1, 0), 90);
    }

    private static void linesEnd() {
        // A line ends at one that lives: its own children have none of it.
        EstateOffice x = threeRows("kin c=child;steps c;rest c 1;");
        die(x, 50, 1);
        x.would(0, 50);
        Edges.due("not behind one that lives", Edges.whys(x, 3, 4, 5), 5, 5, 0);
        // A HEAD that dies with its own only line has none.
        die(x, 51, 3, 4, 5);
        x.would(0, 51);
        shares("to the other one", x, of(1, 2, 3, 4, 5), 0, 1, 1, 1, 0, 1, 0, 1, 0, 1);
    }

    // ---- BARRED ----

    private static void barredByAnother() {
        EstateOffice x = children(2, 1, "kin c=child;kin d=child f;bars c d;rest c 1;");
        x.would(0, 9);
        Edges.due("another child bars the daughter", Edges.whys(x, 1, 2), 3, 1);
        x = children(1, 1, "kin c=child;kin d=child f;bars c d;rest c 1;");
        x.would(0, 9);
        Edges.due("none bars itself", Edges.whys(x, 1), 3);
        x = children(2, 2, "kin c=child;kin d=child f;bars c d;rest c 1;");
        x.would(0, 9);
        Edges.due("each bars the other", Edges.whys(x, 1, 2), 1, 1);
        due("the crown", x.estate(8), 1);
        die(x, 9, 1);
        x.would(0, 9);
        Edges.due("not when it is dead", Edges.whys(x, 1, 2), 0, 3);
    }

    private static void barredSecondKin() {
        // 1 is BARRED as a PERSON of the second KIN, and so in all its KINS.
        EstateOffice x = children(3, 1, "kin c=child;kin d=child f;kin s=child m;bars d s;fixed c 1/2;rest s 1;rest c 1;");
        x.would(0, 9);
        Edges.due("in each KIN", Edges.whys(x, 1, 2, 3), 1, 1, 2);
        shares("all to the daughter", x, of(1, 2, 3), 0, 1, 0, 1, 1, 1);
        Edges.due("n is 1; the rest s has none", new long[] {x.estate(6), x.estate(7), x.estate(12), x.rule(3),
            x.rule(1)}, 1, 2, 3, 1, 0);
        // Of the second KIN the dead ones, too: a line of a BARRED one has nothing.
        x = threeRows("kin c=child;kin g=child.child;kin m=mate;steps c;bars m c;rest c 1;rest g 1;");
        x.person(1, -1, -1, 0);
        x.mates(0, 6, 0, -1);
        die(x, 50, 1);
        x.would(0, 50);
        Edges.due("a HEAD by STEPS", Edges.whys(x, 1, 2, 3, 4, 6), 1, 1, 3, 3, 4);
        shares("g is not BARRED", x, of(2, 3, 4, 5), 0, 1, 1, 2, 1, 2, 0, 1);
    }

    private static void barsOfHeadsAlone() {
        String law = "kin m=mate;kin c=child;kin b=father.child;bars m c;bars c b;rest b 1;";
        EstateOffice x = Edges.lawful(law);
        x.person(0, -1, -1, 0);
        x.person(0, -1, 0, 10);
        x.person(0, -1, 0, 11);
        x.person(0, -1, 1, 30);
        x.person(1, -1, -1, 30);
        x.mates(4, 1, 5, -1);
        x.would(1, 50);
        Edges.due("one that is BARRED bars, too", Edges.whys(x, 2, 3, 4), 1, 1, 4);
        Edges.due("by its RULE", new long[] {x.rule(2), x.rule(3)}, 1, 0);
        die(x, 51, 4);
        x.would(1, 51);
        Edges.due("a dead one does not", Edges.whys(x, 2, 3, 4), 1, 4, 0);
        die(x, 52, 3);
        x.would(1, 52);
        Edges.due("nor a dead child", Edges.whys(x, 2, 3), 3, 0);
        x.person(0, -1, 3, 40);
        x.would(1, 52);
        Edges.due("nor one with a line, but by STEPS", Edges.whys(x, 2, 3), 3, 0);
        Edges.law(x, law + "steps c;");
        x.would(1, 52);
        Edges.due("by STEPS it does", Edges.whys(x, 2, 3), 1, 4);
    }

    private static void barredPersonZero() {
        EstateOffice x = children(2, 0, "kin f=father;kin c=child;kin b=f.child;bars b f;bars c b;rest f 1;rest b 1;");
        x.person(1, -1, 1, 30);
        x.would(1, 20);
        Edges.due("the father by a brother", Edges.whys(x, 0, 1, 2, 3), 1, 6, 3, 0);
        due("by the first RULE", x.rule(0), 0);
        x.would(1, 30);
        Edges.due("and the brother by a child", Edges.whys(x, 0, 1, 2, 3), 1, 6, 1, 4);
        due("by the second", x.rule(2), 1);
        x.would(1, 1);
        Edges.due("no brother yet", Edges.whys(x, 0, 1, 2), 3, 6, 0);
    }

    private static void nothingOfOlderEstates() {
        // What an ESTATE said of a PERSON is not said of it in the next one.
        EstateOffice x = children(2, 1, "kin c=child;kin f=father;kin b=f.child;rest c 1,f 1;");
        x.would(0, 9);
        Edges.due("by a rest", Edges.whys(x, 0, 1, 2), 6, 3, 3);
        Edges.law(x, "kin c=child;kin f=father;kin b=f.child;fixed f 1/2;fixed c 1/2;");
        x.would(1, 9);
        Edges.due("the father by a fixed, the sister a HEAD of b", Edges.whys(x, 0, 1, 2), 2, 6, 4);
        Edges.law(x, "kin c=child;");
        x.would(0, 9);
        Edges.due("HEADS of c with nothing", Edges.whys(x, 0, 1, 2), 6, 4, 4);
        Edges.due("nor a RULE", new long[] {x.rule(0), x.rule(1), x.rule(2), x.estate(12), x.estate(6)}, -1, -1, -1, -1, 0);
        shares("nor a part", x, of(0, 1, 2), 0, 1, 0, 1, 0, 1);
        Edges.law(x, "kin c=child;kin f=father;kin b=f.child;bars f b;rest f 1;");
        x.would(1, 9);
        Edges.due("BARRED by the father", Edges.whys(x, 0, 1, 2), 3, 6, 1);
        x.would(0, 9);
        Edges.due("not here", Edges.whys(x, 0, 1, 2), 6, 4, 4);
        due("the crown", x.estate(8), 1);
        Edges.law(x, "kin f=father;");
        x.would(1, 9);
        Edges.due("without a RULE", Edges.whys(x, 0, 1, 2), 4, 6, 0);
    }

    // ---- (1) ----

    private static void fixedForHeads() {
        EstateOffice x = children(2, 1, "kin m=mate;kin s=child m;kin d=child f;fixed m 1/2;fixed s 1/4;fixed d 1/8;");
        x.would(0, 9);
        Edges.due("none without a HEAD", Edges.figures(x, 6, 9), 3, 8, 5, 8);
        x.would(0, 1);
        Edges.due("nor with one not born", Edges.figures(x, 6, 9), 1, 4, 3, 4);
        x.would(0, 0);
        Edges.due("none at all", Edges.figures(x, 6, 9), 0, 1, 1, 1);
        die(x, 9, 1);
        x.would(0, 9);
        Edges.due("nor with a dead one", Edges.figures(x, 6, 9), 1, 8, 7, 8);
    }

    private static void fixedCounts() {
        EstateOffice x = children(4, 1, "kin c=child;kin d=child f;fixed d 1/5;fixed c 3/10;fixed c 1/2;");
        x.would(0, 9);
        shares("n is of those without a part", x, of(1, 2, 3, 4), 1, 10, 1, 10, 1, 10, 1, 5);
        Edges.due("a fixed of whose HEADS all have one counts nothing", Edges.figures(x, 6, 7), 1, 2);
        Edges.law(x, "kin c=child;kin d=child f;fixed d 1/5 each;fixed c 3/10 each;");
        x.would(0, 9);
        Edges.due("each: n times", Edges.figures(x, 6, 7), 11, 10);
        shares("lessened", x, of(1, 4), 3, 11, 2, 11);
        Edges.law(x, "kin c=child;kin d=child f;kin s=child m;bars d s;fixed c 3/10 each;");
        x.would(0, 9);
        Edges.due("not for the BARRED", Edges.figures(x, 6, 7), 3, 10);
        Edges.law(x, "kin c=child;fixed c 1/4 each;");
        x.would(0, 1);
        Edges.due("each of one", Edges.figures(x, 6, 7), 1, 4);
        x.would(0, 4);
        Edges.due("each of four", Edges.figures(x, 6, 9), 1, 1, 0, 1);
        // A P of 0 is one, and a part.
        Edges.law(x, "kin c=child;kin d=child f;fixed d 0/5;fixed c 1/3;");
        x.would(0, 9);
        shares("no other fixed gives to it", x, of(1, 4), 1, 9, 0, 1);
        Edges.due("by a fixed", Edges.whys(x, 1, 4), 2, 2);
    }

    private static void ifAndNot() {
        String[] tells = {"fixed m 1/2 if c;", "fixed m 1/2 not c;", "fixed m 1/2 if d;", "fixed m 1/2 not d;",
            "fixed m 1/2 if c not d;", "fixed m 1/2 if d not c;", "fixed m 1/2 if m;", "fixed m 1/2 not m;",
            "fixed m 1/2 if c not c;"};
        // c: a child that lives; d: a daughter, who is there on day 3 alone; none on day 0.
        long[][] due = {{0, 1, 1}, {1, 0, 0}, {0, 0, 1}, {1, 1, 0}, {0, 1, 0}, {0, 0, 0}, {1, 1, 1}, {0, 0, 0}, {0, 0, 0}};
        int[] days = {1, 2, 3};
        for (int i = 0; i < tells.length; i++) {
            EstateOffice x = Edges.lawful("kin m=mate;kin c=child;kin d=child f;" + tells[i]);
            x.person(0, -1, -1, 0);
            x.person(0, -1, -1, 0);
            x.person(0, -1, 0, 2);
            x.person(1, -1, 0, 3);
            x.mates(0, 1, 0, -1);
            for (int day = 0; day < 3; day++) {
                x.would(0, days[day]);
                due(tells[i] + " day " + days[day], x.estate(6), due[i][day]);
            }
        }
        // A BARRED HEAD is one; a dead one is by STEPS with a line alone.
        EstateOffice x = Edges.lawful("kin m=mate;kin c=child;bars m c;fixed m 1/2 if c;");
        x.person(0, -1, -1, 0);
        x.person(0, -1, -1, 0);
        x.person(0, -1, 0, 2);
        x.mates(0, 1, 0, -1);
        x.would(0, 9);
        Edges.due("if of a BARRED one", new long[] {x.estate(6), x.why(2)}, 1, 1);
        die(x, 9, 2);
        x.would(0, 9);
        due("if of a dead one", x.estate(6), 0);
        x.person(0, -1, 2, 4);
        x.would(0, 9);
        due("if of a dead one with a child", x.estate(6), 0);
        Edges.law(x, "kin m=mate;kin c=child;bars m c;fixed m 1/2 if c;steps c;");
        x.would(0, 9);
        due("if of one by STEPS", x.estate(6), 1);
    }

    // ---- (2) ----

    private static void sumOfOne() {
        EstateOffice x = children(3, 1, "kin s=child m;kin d=child f;fixed s 1/2;fixed d 1/2;rest s 1;back d;");
        x.would(0, 9);
        Edges.due("R is 0", Edges.figures(x, 6, 12), 1, 1, 0, 1, 0, 9, -1);
        shares("as they are", x, of(1, 2, 3), 1, 4, 1, 4, 1, 2);
        Edges.law(x, "kin s=child m;kin d=child f;fixed s 499/999;fixed d 1/2;rest s 1;back d;");
        x.would(0, 9);
        Edges.due("just below 1", Edges.figures(x, 6, 12), 1997, 1998, 0, 1, 0, 9, 2);
        shares("to the rest", x, of(1, 2, 3), 1, 4, 1, 4, 1, 2);
        Edges.law(x, "kin s=child m;kin d=child f;fixed s 500/999;fixed d 1/2;rest s 1;back d;");
        x.would(0, 9);
        Edges.due("just above 1", Edges.figures(x, 6, 12), 1999, 1998, 0, 1, 0, 9, -1);
        shares("each lessened", x, of(1, 2, 3), 500, 1999, 500, 1999, 999, 1999);
    }

    private static void sumAboveOne() {
        EstateOffice x = children(3, 1, "kin s=child m;kin d=child f;kin n=mate;fixed s 1/1 each;fixed d 1/1;rest n 1;");
        x.person(1, -1, -1, 0);
        x.mates(0, 4, 0, -1);
        x.would(0, 9);
        Edges.due("S is 3", Edges.figures(x, 6, 12), 3, 1, 0, 1, 0, 9, -1);
        shares("a third each, none of a rest", x, of(1, 2, 3, 4), 1, 3, 1, 3, 1, 3, 0, 1);
        due("a HEAD with none of these", x.why(4), 4);
        Edges.law(x, "kin s=child m;kin d=child f;fixed s 0/1;fixed d 1/1;kin n=mate;fixed n 1/2;");
        x.would(0, 9);
        shares("a P of 0 stays 0", x, of(1, 2, 3, 4), 0, 1, 0, 1, 2, 3, 1, 3);
    }

    private static void restOfNothing() {
        EstateOffice x = children(3, 1, "kin c=child;kin d=child f;fixed d 1/1;rest c 1;");
        x.would(0, 9);
        Edges.due("none by a rest", Edges.whys(x, 1, 2, 3), 4, 4, 2);
        Edges.due("nor its RULE", new long[] {x.rule(1), x.rule(3), x.estate(12)}, -1, 0, -1);
    }

    // ---- (3) ----

    private static void firstRest() {
        String kins = "kin m=mate;kin c=child;kin d=child f;kin s=child m;";
        EstateOffice x = children(2, 1, kins + "rest m 5;rest m 1,d 1;rest c 1;");
        x.would(0, 9);
        Edges.due("the first with a HEAD, by its second KIN", new long[] {x.estate(12), x.got(2, 1), x.why(1)}, 1, 1, 4);
        x.would(0, 1);
        Edges.due("the daughter is not born", new long[] {x.estate(12), x.got(1, 1), x.why(1)}, 2, 1, 3);
        x.would(0, 0);
        Edges.due("none", new long[] {x.estate(12), x.estate(8)}, -1, 1);
        Edges.law(x, kins + "bars s d;rest d 1;rest c 1;");
        x.would(0, 9);
        Edges.due("not by a BARRED HEAD alone", new long[] {x.estate(12), x.got(1, 0), x.got(2, 0)}, 2, 1, 0);
        Edges.law(x, kins + "bars s d;rest d 9,s 1;");
        x.would(0, 9);
        Edges.due("a BARRED one has no weight", new long[] {x.estate(12), x.got(1, 0), x.got(2, 0)}, 1, 1, 0);
        Edges.law(x, kins + "bars s d;rest d 1;back s;");
        x.would(0, 9);
        Edges.due("the crown's", new long[] {x.estate(12), x.estate(8), x.why(2), x.rule(2)}, -1, 1, 1, 0);
    }

    private static void weightsOfHeads() {
        String kins = "kin c=child;kin d=child f;kin s=child m;";
        EstateOffice x = children(3, 1, kins + "rest s 1,c 2;");
        x.would(0, 9);
        shares("in the first that has it", x, of(1, 2, 3), 1, 4, 1, 4, 1, 2);
        Edges.law(x, kins + "rest c 2,s 1;");
        x.would(0, 9);
        shares("here, too", x, of(1, 2, 3), 1, 3, 1, 3, 1, 3);
        Edges.law(x, kins + "fixed s 1/3;rest d 1,s 1;");
        x.would(0, 9);
        shares("P and more", x, of(1, 2, 3), 7, 18, 7, 18, 2, 9);
        Edges.due("by a rest alone is the daughter's", Edges.whys(x, 1, 2, 3), 2, 2, 3);
        Edges.law(x, kins + "rest s 1,d 999;");
        x.would(0, 9);
        shares("weights 1 and 999", x, of(1, 2, 3), 1, 1001, 1, 1001, 999, 1001);
        // Of a HEAD that another KIN has dead and without STEPS: the one of which it is a HEAD counts.
        x = threeRows("kin s=child;kin c=child;steps c;rest s 1,c 5;");
        die(x, 50, 1);
        x.would(0, 50);
        shares("1 by c, 2 by s", x, of(2, 3, 4), 1, 6, 5, 12, 5, 12);
    }

    private static void firstBack() {
        String kins = "kin m=mate;kin c=child;kin d=child f;kin s=child m;";
        EstateOffice x = children(3, 1, kins + "fixed s 0/1;fixed d 1/4;back m;back s;back m,d;back d;");
        x.would(0, 9);
        Edges.due("of a P above 0", Edges.figures(x, 6, 12), 1, 4, 0, 1, 0, 9, 4);
        shares("all to the daughter", x, of(1, 2, 3), 0, 1, 0, 1, 1, 1);
        Edges.law(x, kins + "fixed s 0/1;back s;back c;back m;");
        x.would(0, 9);
        Edges.due("none has one", Edges.figures(x, 6, 12), 0, 1, 1, 1, 0, 9, -1);
        Edges.law(x, kins + "fixed d 1/4;rest m 1;back d;");
        x.would(0, 9);
        Edges.due("without such a rest", new long[] {x.estate(12), x.got(3, 1)}, 2, 1);
        Edges.law(x, kins + "back d;fixed d 1/4;rest s 1;");
        x.would(0, 9);
        Edges.due("a rest goes first, wherever it stands", new long[] {x.estate(12), x.got(3, 1)}, 2, 4);
        Edges.law(x, kins + "back d;rest s 1;");
        x.would(0, 9);
        Edges.due("a part by a rest is no P", new long[] {x.estate(12), x.got(3, 0)}, 1, 0);
    }

    private static void backInMeasure() {
        String kins = "kin m=mate;kin c=child;kin d=child f;kin s=child m;";
        EstateOffice x = children(3, 1, kins + "fixed d 1/4;fixed s 1/4;back c,d;");
        x.would(0, 9);
        shares("each once", x, of(1, 2, 3), 1, 4, 1, 4, 1, 2);
        Edges.law(x, kins + "fixed d 1/4;fixed s 1/4;back d;");
        x.would(0, 9);
        shares("of its KIN alone", x, of(1, 2, 3), 1, 8, 1, 8, 3, 4);
        Edges.law(x, kins + "fixed d 1/4;back s,d;");
        x.would(0, 9);
        shares("without a P nothing", x, of(1, 2, 3), 0, 1, 0, 1, 1, 1);
        Edges.due("none of these", Edges.whys(x, 1, 2, 3), 4, 4, 2);
        // A dead HEAD by STEPS has it back, too, for its line.
        x = threeRows("kin c=child;steps c;fixed c 1/3;back c;");
        die(x, 50, 1);
        x.would(0, 50);
        shares("by lines", x, of(1, 2, 3, 4), 0, 1, 1, 2, 1, 4, 1, 4);
    }

    private static void backToPersonZero() {
        EstateOffice x = children(2, 1, "kin f=father;kin s=f.child;fixed f 1/8;fixed s 3/8;back f;");
        x.wealth(1, 80);
        x.would(1, 9);
        shares("all to the father", x, of(0, 1, 2), 5, 8, 0, 1, 3, 8);
        due("by the RULE", x.estate(12), 2);
        Edges.law(x, "kin f=father;kin s=f.child;fixed f 1/8;fixed s 3/8;back s,f;");
        x.would(1, 9);
        shares("in measure", x, of(0, 1, 2), 1, 4, 0, 1, 3, 4);
        die(x, 9, 1);
        Edges.due("amounts", new long[] {x.told(0, 6), x.told(1, 6), x.told(2, 6), x.outside(1, 0)}, 20, 0, 60, 0);
    }

    private static void crown() {
        EstateOffice x = children(1, 0, "kin c=child;fixed c 998/999;");
        x.wealth(0, 999);
        die(x, 5, 0);
        Edges.due("R", new long[] {x.outside(1, 0), x.told(1, 6)}, 1, 998);
        x.undo();
        Edges.law(x, "kin c=child;fixed c 999/999;");
        die(x, 5, 0);
        Edges.due("R is 0", new long[] {x.outside(1, 0), x.told(1, 6)}, 0, 999);
        x.undo();
        Edges.law(x, "kin c=child;fixed c 0/999;");
        die(x, 5, 0);
        Edges.due("R is 1", new long[] {x.outside(1, 0), x.told(1, 6)}, 999, 0);
    }

    private static void partsOfLines() {
        // 1 (dead) has 3 (dead, with 5 and 6) and 4 (dead without a line): all goes to 5 and 6.
        EstateOffice x = threeRows("kin c=child;steps c;rest c 1;");
        x.person(1, -1, 3, 41);
        x.person(1, -1, 4, 90);
        die(x, 50, 1, 3, 4);
        x.would(0, 50);
        shares("how many live or have a line", x, of(2, 3, 4, 5, 6, 7), 1, 2, 0, 1, 0, 1, 1, 4, 1, 4, 0, 1);
        x.would(0, 90);
        shares("one more has", x, of(2, 5, 6, 7), 1, 2, 1, 8, 1, 8, 1, 4);
        // A child of two lines, and a HEAD of its own right.
        EstateOffice y = Edges.lawful("kin c=child;kin g=c.c;steps c;rest c 1,g 2;");
        y.person(0, -1, -1, 0);
        y.person(0, -1, 0, 10);
        y.person(1, -1, 0, 11);
        y.person(0, 2, 1, 30);
        die(y, 50, 1, 2);
        y.would(0, 50);
        shares("its own and two lines", y, of(1, 2, 3), 0, 1, 0, 1, 1, 1);
        Edges.due("it is a HEAD", Edges.whys(y, 1, 2, 3), 3, 3, 3);
        Edges.law(y, "kin c=child;kin s=child m;steps c;fixed s 1/3;rest c 1;");
        y.would(0, 50);
        Edges.due("s is none by STEPS", Edges.figures(y, 6, 7), 0, 1);
        Edges.due("of two lines", new long[] {y.got(3, 0), y.got(3, 1), y.why(3), y.rule(3)}, 1, 1, 5, -1);
    }

    private static void whysAndRules() {
        EstateOffice x = children(3, 1, "kin c=child;kin s=child m;kin d=child f;kin m=mate;bars m d;bars d s;bars s d;"
            + "fixed m 0/1;fixed m 1/3;rest c 1,m 1;");
        x.person(1, -1, -1, 0);
        x.mates(0, 4, 0, -1);
        x.would(0, 9);
        Edges.due("whys", Edges.whys(x, 0, 1, 2, 3, 4), 6, 1, 1, 1, 2);
        Edges.due("the first by which it is so", new long[] {x.rule(0), x.rule(1), x.rule(2), x.rule(3), x.rule(4)},
            -1, 1, 1, 0, 3);
        shares("a P of 0, and the rest", x, of(1, 3, 4), 0, 1, 0, 1, 1, 1);
        due("the rest's", x.estate(12), 5);
        x.would(4, 9);
        Edges.due("of another one", Edges.whys(x, 0, 1, 2, 3, 4), 2, 0, 0, 0, 6);
        x.would(1, 9);
        Edges.due("of a child without kin", Edges.whys(x, 0, 1, 2, 3, 4), 0, 6, 0, 0, 0);
    }
}
