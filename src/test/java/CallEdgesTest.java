/**
 * The edges that promises 1 to 15 and 20 to 23 name for their calls: the case just inside, the one
 * just outside, and that a refused call changes nothing.
 */
public final class CallEdgesTest {
    private static final int MIN = Integer.MIN_VALUE;
    private static final int MAX = Integer.MAX_VALUE;

    public static void main(String[] args) {
        newObject();
        feedToTheBrim();
        backAsFarAsItGoes();
        readOfAllBytes();
        placeOfTheLatest();
        personRefused();
        personAtTheEdge();
        thirtyPersons();
        matesRefused();
        matesAtTheEdge();
        sixtyMates();
        wealthEdges();
        owesEdges();
        sixtyDebts();
        leavesEdges();
        sixtyLegacies();
        diesEdges();
        settleRefused();
        settleAtTheEdge();
        thirtyDieAtOnce();
        undoTakesAllBack();
        undoLeavesTheRest();
        undoThirtyDeaths();
        wouldRefused();
        wouldAtTheEdge();
        wouldDoesNothingElse();
        openEdges();
        questionsOutside();
        questionsChangeNothing();
        personsOfThen();
        Edges.end("what the calls' edges ask");
    }

    private static void due(String call, long got, long want) {
        Edges.due(call, got, want);
    }

    private static void due(String call, boolean got, boolean want) {
        Edges.due(call, got, want);
    }

    /**
     * 0 and 1 are mates with the children 2 and 3; 4 is a child of 2. 2 died on the day 70 and its
     * ESTATE is at hand, 1 and 4 are listed, a text is on the tape.
     */
    private static void family(EstateOffice x) {
        Edges.law(x, "kin c=child;kin m=mate;kin p=mother|father;fixed m 1/4 if c;rest c 1;back m;steps c;will 1/2;");
        x.person(0, -1, -1, 10);
        x.person(1, -1, -1, 12);
        x.person(0, 1, 0, 30);
        x.person(1, 1, 0, 40);
        x.person(0, -1, 2, 60);
        x.mates(0, 1, 20, -1);
        x.wealth(0, 1000);
        x.wealth(1, 500);
        x.wealth(2, 90);
        x.owes(0, -1, 100);
        x.owes(0, 1, 50);
        x.leaves(0, 3, 1, 4);
        x.dies(2);
        x.settle(70);
        x.open(2);
        x.dies(1);
        x.dies(4);
        Edges.tape(x, "kin z=child;will 1/3");
    }

    private static void refused(String call, Edges.Call made) {
        Edges.nothingHappens(call, CallEdgesTest::family, made, -1);
    }

    private static void isFalse(String call, Edges.Call made) {
        Edges.nothingHappens(call, CallEdgesTest::family, made, 0);
    }

    private static int one(boolean answer) {
        return answer ? 1 : 0;
    }

    // ---- 1 ----

    private static void newObject() {
        EstateOffice x = new EstateOffice();
        due("no one is listed", x.settle(0), -1);
        due("no KIN", x.kin(0, 0, 0, 0), -1);
        due("a person", x.person(0, -1, -1, 0), 0);
        due("day 0 is the last of a death", x.would(0, -1), -1);
        due("it is no fault to die on it", x.would(0, 0), 0);
        due("the empty law has no part for anyone", x.estate(9), 1);
        // Nor has it a will: its BOUND is 0.
        x.person(0, -1, -1, 0);
        x.wealth(0, 12);
        due("a legacy", x.leaves(0, 1, 1, 2), true);
        due("would", x.would(0, 0), 0);
        Edges.due("nothing of it", new long[] {x.estate(2), x.got(1, 2), x.estate(4), x.estate(8)}, 0, 0, 12, 1);
        // Objects have nothing in common.
        EstateOffice y = new EstateOffice();
        due("no persons", y.count(0), 0);
        due("none at hand", y.estate(10), -1);
        y.person(0, -1, -1, 0);
        y.dies(0);
        due("day 0", y.settle(0), 1);
        due("the other one lives", x.told(0, 4), -1);
    }

    // ---- 2, 3 ----

    private static void family1980(EstateOffice x) {
        family(x);
        for (int i = 1; i < 99; i++) {
            Edges.blankFeed(x);
        }
    }

    private static void feedToTheBrim() {
        EstateOffice x = new EstateOffice();
        family1980(x);
        due("bytes", x.count(10), 1980);
        due("the last twenty", Edges.blankFeed(x), 2000);
        due("no more", Edges.blankFeed(x), -1);
        x = new EstateOffice();
        family1980(x);
        Edges.blankFeed(x);
        due("back", x.back(19), 1981);
        due("2001 would be too many", Edges.blankFeed(x), -1);
        due("back", x.back(1), 1980);
        due("2000 are not", Edges.blankFeed(x), 2000);
        Edges.nothingHappens("feed on 2000", y -> {
            family1980(y);
            Edges.blankFeed(y);
        }, y -> y.feed(MIN, MAX, -1, 0, 1), -1);
        Edges.nothingHappens("feed on 1981", y -> {
            family1980(y);
            Edges.blankFeed(y);
            y.back(19);
        }, y -> y.feed(MIN, MAX, -1, 0, 1), -1);
    }

    private static void backAsFarAsItGoes() {
        refused("back(-1)", x -> x.back(-1));
        refused("back(MIN)", x -> x.back(MIN));
        refused("back(21) of 20", x -> x.back(21));
        refused("back(MAX)", x -> x.back(MAX));
        Edges.nothingHappens("back(0)", CallEdgesTest::family, x -> x.back(0), 20);
        EstateOffice x = new EstateOffice();
        family(x);
        due("back(19) of 20", x.back(19), 1);
        due("back(2) of 1", x.back(2), -1);
        due("back(1) of 1", x.back(1), 0);
        due("back(1) of none", x.back(1), -1);
        due("back(0) of none", x.back(0), 0);
        // What comes behind comes in the place of what went.
        Edges.tape(x, "kin a=mate;xx");
        x.back(2);
        Edges.tape(x, "kin b=a;");
        due("read", x.read(), 0);
        due("two KIN", x.count(4), 2);
    }

    // ---- 4, 5 ----

    private static void readOfAllBytes() {
        String kin = "kin a=child;";
        readFull(kin + " ".repeat(1980) + "will 1/2", 1, 2000);
        readFull(kin + " ".repeat(1979) + "will 1/2 ", 1, 2000);
        readFull(kin + " ".repeat(1979) + "will 1/2;", 0, -1);
        readFull(kin + " ".repeat(1978) + "will 1/2;!", 1, 1999);
        readFull(kin + " ".repeat(1978) + "will 1/2;x", 1, 1999);
        readFull(kin + " ".repeat(1977) + "will 1/2;x!", 1, 1998);
        readFull(kin + " ".repeat(1980) + "steps a;", 0, -1);
        readFull(kin + " ".repeat(1980) + "steps b;", 4, 1998);
        EstateOffice x = Edges.lawful(kin);
        due("an empty tape", x.read(), 0);
        due("is an empty law", x.count(4), 0);
    }

    /** A text of 2000 bytes. */
    private static void readFull(String text, int fault, int place) {
        EstateOffice x = new EstateOffice();
        Edges.tape(x, text);
        due("bytes", x.count(10), 2000);
        due("read", x.read(), fault);
        due("place", x.place(), place);
        due("the tape is empty then", x.count(10), 0);
        due("KIN", x.count(4), fault == 0 ? 1 : 0);
    }

    private static void placeOfTheLatest() {
        EstateOffice x = new EstateOffice();
        due("none was read", x.place(), -1);
        Edges.tape(x, "  steps a;");
        due("not read yet", x.place(), -1);
        due("NAME", x.read(), 4);
        due("its place", x.place(), 8);
        Edges.tape(x, "will 1/2;");
        due("till the next is read", x.place(), 8);
        x.back(0);
        due("read", x.read(), 0);
        due("without a fault", x.place(), -1);
        Edges.tape(x, "!");
        due("SYNTAX", x.read(), 1);
        due("place 0", x.place(), 0);
    }

    // ---- 6 ----

    private static void personRefused() {
        refused("SEX -1", x -> x.person(-1, -1, -1, 50));
        refused("SEX 2", x -> x.person(2, -1, -1, 50));
        refused("SEX MIN", x -> x.person(MIN, -1, -1, 50));
        refused("SEX MAX", x -> x.person(MAX, -1, -1, 50));
        refused("MOTHER of SEX 0", x -> x.person(0, 0, -1, 50));
        refused("FATHER of SEX 1", x -> x.person(0, -1, 1, 50));
        refused("MOTHER and FATHER in each other's place", x -> x.person(0, 0, 1, 50));
        refused("MOTHER -2", x -> x.person(0, -2, -1, 50));
        refused("FATHER -2", x -> x.person(0, -1, -2, 50));
        refused("MOTHER MIN", x -> x.person(0, MIN, -1, 50));
        refused("FATHER MAX", x -> x.person(0, -1, MAX, 50));
        refused("itself the MOTHER", x -> x.person(1, 5, -1, 50));
        refused("itself the FATHER", x -> x.person(0, -1, 5, 50));
        refused("MOTHER 30", x -> x.person(0, 30, -1, 50));
        refused("FATHER 32", x -> x.person(0, -1, 32, 50));
        refused("born -1", x -> x.person(0, -1, -1, -1));
        refused("born 100001", x -> x.person(0, -1, -1, 100001));
        refused("born MIN", x -> x.person(0, -1, -1, MIN));
        refused("born MAX", x -> x.person(0, -1, -1, MAX));
        refused("born on its MOTHER's day", x -> x.person(0, 1, -1, 12));
        refused("born on its FATHER's day", x -> x.person(0, -1, 0, 10));
        refused("born behind the FATHER's day alone", x -> x.person(0, 1, 0, 12));
        refused("born behind the MOTHER's day alone", x -> x.person(0, 1, 2, 30));
        refused("born ahead of both", x -> x.person(0, 1, 0, 3));
    }

    private static void personAtTheEdge() {
        EstateOffice x = new EstateOffice();
        family(x);
        due("born behind its MOTHER's day", x.person(0, 1, -1, 13), 5);
        due("born behind its FATHER's day", x.person(1, -1, 0, 11), 6);
        due("born behind both", x.person(0, 1, 2, 31), 7);
        due("born on day 0", x.person(0, -1, -1, 0), 8);
        due("born on day 100000", x.person(1, -1, -1, 100000), 9);
        due("a child of one of day 0", x.person(1, -1, 8, 1), 10);
        due("none behind day 100000", x.person(1, 9, -1, 100001), -1);
        due("nor on it", x.person(1, 9, -1, 100000), -1);
        Edges.due("as told", new long[] {x.told(7, 0), x.told(7, 1), x.told(7, 2), x.told(7, 3), x.told(7, 4),
            x.told(7, 5), x.told(7, 6), x.told(7, 7)}, 0, 1, 2, 31, -1, 0, 0, 1);
        due("the dead FATHER's child, born behind his death", x.person(1, -1, 2, 71), 11);
    }

    private static void thirtyPersons() {
        Edges.Calls full = x -> {
            Edges.law(x, "kin c=child;rest c 1;");
            for (int p = 0; p < 30; p++) {
                due("person", x.person(p % 2, -1, p == 0 ? -1 : 0, p), p);
            }
            x.wealth(0, 58);
            x.dies(0);
        };
        Edges.nothingHappens("person 31", full, x -> x.person(0, -1, -1, 50), -1);
        EstateOffice x = new EstateOffice();
        full.on(x);
        due("the last one is told", x.told(29, 3), 29);
        due("there is no 31st", x.told(30, 3), -1);
        due("30", x.count(0), 30);
        due("settle", x.settle(50), 1);
        Edges.due("the last one has its part", Edges.worth(x, 29), 2, 1);
        due("the last KIN", x.kin(0, 0, 50, 28), 29);
        due("no more", x.kin(0, 0, 50, 29), -1);
    }

    // ---- 7 ----

    private static void matesRefused() {
        isFalse("a -1", x -> one(x.mates(-1, 1, 20, 30)));
        isFalse("b -1", x -> one(x.mates(1, -1, 20, 30)));
        isFalse("a 5 of 5", x -> one(x.mates(5, 1, 20, 30)));
        isFalse("b 5 of 5", x -> one(x.mates(1, 5, 20, 30)));
        isFalse("a MIN", x -> one(x.mates(MIN, 1, 20, 30)));
        isFalse("b MAX", x -> one(x.mates(1, MAX, 20, 30)));
        isFalse("one and the same", x -> one(x.mates(3, 3, 20, 30)));
        isFalse("none and none", x -> one(x.mates(-1, -1, 20, 30)));
        isFalse("from -1", x -> one(x.mates(1, 3, -1, 30)));
        isFalse("from -1 for ever", x -> one(x.mates(1, 3, -1, -1)));
        isFalse("from 100001 for ever", x -> one(x.mates(1, 3, 100001, -1)));
        isFalse("from 100001 on", x -> one(x.mates(1, 3, 100001, 100002)));
        isFalse("from MIN", x -> one(x.mates(1, 3, MIN, 30)));
        isFalse("until from", x -> one(x.mates(1, 3, 20, 20)));
        isFalse("until ahead of from", x -> one(x.mates(1, 3, 20, 19)));
        isFalse("until 0 from 0", x -> one(x.mates(1, 3, 0, 0)));
        isFalse("until -2", x -> one(x.mates(1, 3, 20, -2)));
        isFalse("until -2 from 0", x -> one(x.mates(1, 3, 0, -2)));
        isFalse("until 100001", x -> one(x.mates(1, 3, 20, 100001)));
        isFalse("until 100001 from 100000", x -> one(x.mates(1, 3, 100000, 100001)));
        isFalse("until 100000 from 100000", x -> one(x.mates(1, 3, 100000, 100000)));
        isFalse("until MAX", x -> one(x.mates(1, 3, 20, MAX)));
        isFalse("until MIN", x -> one(x.mates(1, 3, 20, MIN)));
    }

    private static void matesAtTheEdge() {
        EstateOffice x = new EstateOffice();
        family(x);
        due("from 0 until 1", x.mates(1, 3, 0, 1), true);
        due("from 20 until 21", x.mates(3, 1, 20, 21), true);
        due("from 0 for ever", x.mates(2, 3, 0, -1), true);
        due("from 99999 until 100000", x.mates(0, 4, 99999, 100000), true);
        due("from 100000 for ever", x.mates(0, 3, 100000, -1), true);
        due("of one SEX, of a dead one, again", x.mates(1, 3, 20, 21), true);
        due("all are told", x.count(1), 7);
        Edges.due("the day of until is none", Edges.kinOf(x, 1, 0, 100000), 1, 4);
        Edges.due("the day ahead of from is none", Edges.kinOf(x, 1, 0, 99999), 1);
    }

    private static void sixtyMates() {
        Edges.Calls full = x -> {
            family(x);
            for (int i = 1; i < 60; i++) {
                due("mates", x.mates(i % 2 == 0 ? 0 : 3, 2, 30 + i, 31 + i), true);
            }
        };
        Edges.nothingHappens("mates 61", full, x -> one(x.mates(0, 3, 20, -1)), 0);
        EstateOffice x = new EstateOffice();
        full.on(x);
        due("60", x.count(1), 60);
        Edges.due("the 60th counts", Edges.kinOf(x, 1, 2, 90), 3);
    }

    // ---- 8 ----

    private static void wealthEdges() {
        isFalse("of -1", x -> one(x.wealth(-1, 5)));
        isFalse("of 5 of 5", x -> one(x.wealth(5, 5)));
        isFalse("of MIN", x -> one(x.wealth(MIN, 5)));
        isFalse("of MAX", x -> one(x.wealth(MAX, 5)));
        isFalse("of a dead one", x -> one(x.wealth(2, 5)));
        isFalse("-1", x -> one(x.wealth(0, -1)));
        isFalse("100001", x -> one(x.wealth(0, 100001)));
        isFalse("MIN", x -> one(x.wealth(0, MIN)));
        isFalse("MAX", x -> one(x.wealth(0, MAX)));
        EstateOffice x = new EstateOffice();
        family(x);
        due("0", x.wealth(0, 0), true);
        Edges.due("0 / 1", Edges.worth(x, 0), 0, 1);
        due("100000", x.wealth(0, 100000), true);
        Edges.due("100000 / 1", Edges.worth(x, 0), 100000, 1);
        due("of a listed one", x.wealth(1, 3), true);
        Edges.due("becomes, not more by", Edges.worth(x, 1), 3, 1);
    }

    // ---- 9 ----

    private static void owesEdges() {
        isFalse("of -1", x -> one(x.owes(-1, 0, 5)));
        isFalse("of a stranger to one", x -> one(x.owes(-1, -1, 5)));
        isFalse("of 5 of 5", x -> one(x.owes(5, 0, 5)));
        isFalse("of MAX", x -> one(x.owes(MAX, 0, 5)));
        isFalse("of a dead one", x -> one(x.owes(2, 0, 5)));
        isFalse("to -2", x -> one(x.owes(0, -2, 5)));
        isFalse("to 5 of 5", x -> one(x.owes(0, 5, 5)));
        isFalse("to MIN", x -> one(x.owes(0, MIN, 5)));
        isFalse("one and the same", x -> one(x.owes(3, 3, 5)));
        isFalse("0", x -> one(x.owes(0, 1, 0)));
        isFalse("-1", x -> one(x.owes(0, 1, -1)));
        isFalse("100001", x -> one(x.owes(0, 1, 100001)));
        isFalse("MIN", x -> one(x.owes(0, 1, MIN)));
        isFalse("MAX", x -> one(x.owes(0, -1, MAX)));
        EstateOffice x = new EstateOffice();
        family(x);
        due("1", x.owes(3, -1, 1), true);
        due("100000", x.owes(3, 0, 100000), true);
        due("to a dead one", x.owes(3, 2, 4), true);
        due("of a listed one", x.owes(1, 3, 4), true);
        due("six", x.count(2), 6);
        x.wealth(3, 90000);
        due("would", x.would(3, 70), 0);
        Edges.due("1 to a stranger, the rest to 0", new long[] {x.estate(0), x.got(0, 4)}, 90000, 89999);
    }

    private static void sixtyDebts() {
        Edges.Calls full = x -> {
            family(x);
            for (int i = 2; i < 60; i++) {
                due("debt", x.owes(0, i % 2 == 0 ? 3 : -1, i), true);
            }
        };
        Edges.nothingHappens("debt 61", full, x -> one(x.owes(0, 3, 7)), 0);
        EstateOffice x = new EstateOffice();
        full.on(x);
        due("60", x.count(2), 60);
        x.wealth(0, 100000);
        x.would(0, 70);
        due("all are paid", x.estate(0), 150 + 59 * 30 - 1);
        due("the last one, too", x.got(3, 4), 2 * (29 * 30 / 2));
    }

    // ---- 10 ----

    private static void leavesEdges() {
        isFalse("of -1", x -> one(x.leaves(-1, 0, 1, 2)));
        isFalse("of 5 of 5", x -> one(x.leaves(5, 0, 1, 2)));
        isFalse("of MIN", x -> one(x.leaves(MIN, 0, 1, 2)));
        isFalse("of a dead one", x -> one(x.leaves(2, 0, 1, 2)));
        isFalse("to -1", x -> one(x.leaves(0, -1, 1, 2)));
        isFalse("to 5 of 5", x -> one(x.leaves(0, 5, 1, 2)));
        isFalse("to MAX", x -> one(x.leaves(0, MAX, 1, 2)));
        isFalse("one and the same", x -> one(x.leaves(0, 0, 1, 2)));
        isFalse("above 0", x -> one(x.leaves(0, 1, 0, 2)));
        isFalse("above -1", x -> one(x.leaves(0, 1, -1, 2)));
        isFalse("above 3 of 2", x -> one(x.leaves(0, 1, 3, 2)));
        isFalse("above 1001 of 1000", x -> one(x.leaves(0, 1, 1001, 1000)));
        isFalse("below 0", x -> one(x.leaves(0, 1, 0, 0)));
        isFalse("below 0, above 1", x -> one(x.leaves(0, 1, 1, 0)));
        isFalse("below -1", x -> one(x.leaves(0, 1, -2, -1)));
        isFalse("below 1001", x -> one(x.leaves(0, 1, 1, 1001)));
        isFalse("below MAX", x -> one(x.leaves(0, 1, 1, MAX)));
        isFalse("above MIN", x -> one(x.leaves(0, 1, MIN, 1000)));
        EstateOffice x = new EstateOffice();
        family(x);
        due("1 / 1", x.leaves(3, 0, 1, 1), true);
        due("1 / 1000", x.leaves(4, 0, 1, 1000), true);
        due("1000 / 1000", x.leaves(4, 0, 1000, 1000), true);
        due("2 / 2", x.leaves(1, 0, 2, 2), true);
        due("to a dead one", x.leaves(4, 2, 1, 2), true);
        due("six", x.count(3), 6);
    }

    private static void sixtyLegacies() {
        Edges.Calls full = x -> {
            family(x);
            for (int i = 1; i < 60; i++) {
                due("legacy", x.leaves(0, i % 2 == 0 ? 1 : 3, 1, 1000), true);
            }
        };
        Edges.nothingHappens("legacy 61", full, x -> one(x.leaves(0, 3, 1, 2)), 0);
        EstateOffice x = new EstateOffice();
        full.on(x);
        due("60", x.count(3), 60);
        x.wealth(0, 1150);
        x.would(0, 70);
        Edges.due("all count", new long[] {x.estate(2), x.estate(3), x.got(1, 2), x.got(3, 2)}, 309, 1, 29, 280);
    }

    // ---- 11 ----

    private static void diesEdges() {
        isFalse("-1", x -> one(x.dies(-1)));
        isFalse("5 of 5", x -> one(x.dies(5)));
        isFalse("30", x -> one(x.dies(30)));
        isFalse("32", x -> one(x.dies(32)));
        isFalse("MIN", x -> one(x.dies(MIN)));
        isFalse("MAX", x -> one(x.dies(MAX)));
        isFalse("listed", x -> one(x.dies(1)));
        isFalse("died", x -> one(x.dies(2)));
        EstateOffice x = new EstateOffice();
        family(x);
        due("not listed", x.dies(3), true);
        due("three listed", x.count(6), 3);
        x.person(0, -1, -1, 100000);
        due("one not born for long", x.dies(5), true);
    }

    // ---- 12 ----

    private static void settleRefused() {
        refused("day 69, ahead of the last", x -> x.settle(69));
        refused("day 0", x -> x.settle(0));
        refused("day -1", x -> x.settle(-1));
        refused("day 100001", x -> x.settle(100001));
        refused("day MIN", x -> x.settle(MIN));
        refused("day MAX", x -> x.settle(MAX));
        Edges.nothingHappens("none is listed", x -> {
            family(x);
            x.settle(71);
        }, x -> x.settle(72), -1);
        Edges.nothingHappens("one of them was not born", x -> {
            family(x);
            x.person(0, -1, -1, 81);
            x.dies(5);
        }, x -> x.settle(80), -1);
        Edges.nothingHappens("the first of them was not born", x -> {
            x.person(0, -1, -1, 81);
            x.person(0, -1, -1, 1);
            x.dies(0);
            x.dies(1);
        }, x -> x.settle(80), -1);
        // 1 / 1000, and then 1 / 1001000 of it.
        Edges.nothingHappens("SPENT", CallEdgesTest::tooSmall, x -> x.settle(9), -2);
    }

    /** The listed ones' ESTATES: that of 4 is well, that of 5 is SPENT: it has 1 / 1000. */
    private static void tooSmall(EstateOffice x) {
        Edges.law(x, "kin c=child;rest c 1;will 1/1;");
        for (int p = 0; p < 6; p++) {
            x.person(0, -1, p < 4 ? -1 : 0, p);
        }
        x.wealth(2, 1);
        x.leaves(2, 5, 1, 1000);
        x.leaves(2, 3, 999, 1000);
        x.dies(2);
        due("settle", x.settle(8), 1);
        x.wealth(4, 7);
        x.leaves(4, 3, 1, 7);
        x.leaves(5, 1, 1, 7);
        x.leaves(5, 3, 1, 143);
        x.leaves(5, 0, 994, 1000);
        x.dies(5);
        x.dies(4);
        x.would(3, 8);
        Edges.tape(x, "kin z=child");
    }

    private static void settleAtTheEdge() {
        EstateOffice x = new EstateOffice();
        family(x);
        due("the last day", x.settle(70), 2);
        due("died on it", x.told(4, 4), 70);
        due("three", x.count(7), 3);
        due("two deaths", x.count(8), 2);
        x.person(0, -1, -1, 81);
        x.dies(5);
        due("ahead of its birth", x.settle(80), -1);
        due("on the day of its birth", x.settle(81), 1);
        due("the last day", x.count(9), 81);
        x.dies(0);
        due("day 100000", x.settle(100000), 1);
        due("the last day", x.count(9), 100000);
        x.dies(3);
        due("one ahead", x.settle(99999), -1);
        due("day 100000 again", x.settle(100000), 1);
        EstateOffice y = new EstateOffice();
        y.person(0, -1, -1, 0);
        y.dies(0);
        due("day 0", y.settle(0), 1);
        due("died on day 0", y.told(0, 4), 0);
    }

    private static void thirtyDieAtOnce() {
        EstateOffice x = Edges.lawful("kin c=child;rest c 1;");
        for (int p = 0; p < 30; p++) {
            x.person(p % 2, -1, p == 0 ? -1 : 0, p);
            x.wealth(p, p);
            due("listed", x.dies(p), true);
        }
        due("30 listed", x.count(6), 30);
        due("the last one is not born", x.settle(28), -1);
        due("all", x.settle(29), 30);
        due("none listed", x.count(6), 0);
        due("30 settled", x.count(7), 30);
        due("one death", x.count(8), 1);
        due("all is the crown's", x.outside(1, 0), 435);
        due("the last one's", x.open(29), true);
        due("had 29", x.estate(4), 29);
        due("undo", x.undo(), true);
        due("30 listed", x.count(6), 30);
        due("the last one has its own", x.told(29, 6), 29);
    }

    // ---- 13 ----

    private static void undoTakesAllBack() {
        Edges.nothingHappens("a death and undo", CallEdgesTest::family, x -> x.settle(80) == 2 ? one(x.undo()) : 0, 1);
        Edges.nothingHappens("a death of the same day and undo", CallEdgesTest::family,
            x -> x.settle(70) == 2 ? one(x.undo()) : 0, 1);
        Edges.nothingHappens("two deaths and undo twice", CallEdgesTest::family, x -> {
            x.settle(80);
            x.dies(0);
            x.settle(90);
            x.undo();
            return one(x.undo());
        }, 1);
        Edges.nothingHappens("none was", x -> {
            x.person(0, -1, -1, 0);
            x.dies(0);
        }, x -> one(x.undo()), 0);
        Edges.nothingHappens("none is left", x -> {
            x.person(0, -1, -1, 0);
            x.person(1, -1, -1, 0);
            x.dies(0);
            x.settle(5);
            x.undo();
            x.dies(1);
        }, x -> one(x.undo()), 0);
    }

    private static void undoLeavesTheRest() {
        EstateOffice x = new EstateOffice();
        family(x);
        x.wealth(4, 11);
        due("settle", x.settle(80), 2);
        x.person(1, -1, -1, 5);
        x.wealth(5, 17);
        x.wealth(0, 23);
        x.mates(0, 5, 6, -1);
        x.owes(0, 5, 9);
        x.leaves(0, 5, 1, 9);
        x.dies(0);
        x.dies(5);
        x.open(1);
        due("the law of now", x.read(), 1);
        Edges.law(x, "kin c=child;");
        due("undo", x.undo(), true);
        Edges.due("listed are who died by it", new long[] {x.told(0, 5), x.told(1, 5), x.told(2, 5), x.told(3, 5),
            x.told(4, 5), x.told(5, 5), x.count(6)}, 0, 1, 0, 0, 1, 0, 2);
        Edges.due("they live again", new long[] {x.told(1, 4), x.told(4, 4), x.told(2, 4)}, -1, -1, 70);
        Edges.due("wealth as ahead of it, but of who was told since", new long[] {x.told(0, 6), x.told(4, 6),
            x.told(5, 6)}, 1000, 11, 17);
        Edges.due("all else stays", new long[] {x.count(0), x.count(1), x.count(2), x.count(3), x.count(4), x.count(5)},
            6, 2, 3, 2, 1, 0);
        Edges.due("the last day, the estates, the deaths", new long[] {x.count(9), x.count(7), x.count(8)}, 70, 1, 1);
        due("its estates are none", x.open(1), false);
        due("nor this one", x.open(4), false);
        due("the one at hand stays so", x.estate(10), 1);
        due("its day", x.estate(11), 80);
        due("an older one is there", x.open(2), true);
    }

    private static void undoThirtyDeaths() {
        EstateOffice x = new EstateOffice();
        for (int p = 0; p < 30; p++) {
            x.person(p % 2, -1, -1, p);
            x.wealth(p, 1);
        }
        for (int round = 0; round < 2; round++) {
            for (int p = 0; p < 30; p++) {
                x.dies(p);
                due("settle", x.settle(100 + p), 1);
            }
            due("30 deaths", x.count(8), 30);
            due("the crown", x.outside(1, 0), 30);
            for (int p = 29; p >= 0; p--) {
                due("undo", x.undo(), true);
                due("the last day", x.count(9), p == 0 ? 0 : 99 + p);
            }
            due("no more", x.undo(), false);
            due("the crown", x.outside(1, 0), 0);
        }
    }

    // ---- 14 ----

    private static void wouldRefused() {
        refused("of -1", x -> x.would(-1, 80));
        refused("of 5 of 5", x -> x.would(5, 80));
        refused("of MIN", x -> x.would(MIN, 80));
        refused("of MAX", x -> x.would(MAX, 80));
        refused("of a dead one", x -> x.would(2, 80));
        refused("day 69, ahead of the last", x -> x.would(0, 69));
        refused("day -1", x -> x.would(0, -1));
        refused("day 100001", x -> x.would(0, 100001));
        refused("day MIN", x -> x.would(0, MIN));
        refused("day MAX", x -> x.would(0, MAX));
        Edges.nothingHappens("not born", x -> {
            family(x);
            x.person(0, -1, -1, 81);
        }, x -> x.would(5, 80), -1);
        Edges.nothingHappens("SPENT", CallEdgesTest::tooSmall, x -> x.would(5, 9), -2);
    }

    private static void wouldAtTheEdge() {
        EstateOffice x = new EstateOffice();
        family(x);
        x.person(0, -1, -1, 81);
        due("the last day", x.would(0, 70), 0);
        due("day 70", x.estate(11), 70);
        due("day 100000", x.would(0, 100000), 0);
        due("day 100000", x.estate(11), 100000);
        due("ahead of its birth", x.would(5, 80), -1);
        due("stays", x.estate(10), 0);
        due("on the day of its birth", x.would(5, 81), 0);
        due("at hand", x.estate(10), 5);
        // As if it alone died: the other listed ones live for it.
        due("a listed one", x.would(1, 80), 0);
        Edges.due("3 and 4 have its parts", Edges.shares(x, 0, 3, 4), 1, 4, 3, 8, 3, 8);
        due("as for one not listed", x.would(0, 80), 0);
        Edges.due("its mate 1 is listed, too", Edges.shares(x, 1, 3, 4), 1, 4, 3, 8, 3, 8);
    }

    private static void wouldDoesNothingElse() {
        Edges.nothingHappens("would of one, and the older one opened", CallEdgesTest::family,
            x -> x.would(0, 80) == 0 ? one(x.open(2)) : 0, 1);
        Edges.nothingHappens("would of a listed one, and the older one opened", CallEdgesTest::family,
            x -> x.would(4, 100000) == 0 ? one(x.open(2)) : 0, 1);
    }

    // ---- 15 ----

    private static void openEdges() {
        isFalse("of -1", x -> one(x.open(-1)));
        isFalse("of 5 of 5", x -> one(x.open(5)));
        isFalse("of 30", x -> one(x.open(30)));
        isFalse("of MIN", x -> one(x.open(MIN)));
        isFalse("of MAX", x -> one(x.open(MAX)));
        isFalse("of one that lives", x -> one(x.open(0)));
        isFalse("of a listed one", x -> one(x.open(1)));
        Edges.nothingHappens("the one at hand again", CallEdgesTest::family, x -> one(x.open(2)), 1);
        Edges.nothingHappens("of one whose death is taken back", x -> {
            family(x);
            x.settle(80);
            x.open(4);
            x.undo();
        }, x -> one(x.open(4)), 0);
        EstateOffice x = new EstateOffice();
        family(x);
        x.settle(80);
        due("settled", x.open(4), true);
        due("at hand", x.estate(10), 4);
        due("of the same death", x.open(1), true);
        due("at hand", x.estate(10), 1);
        x.undo();
        x.settle(90);
        due("till another one becomes it", x.estate(11), 80);
        due("settled again", x.open(1), true);
        due("the new one", x.estate(11), 90);
    }

    // ---- 16, 17, 20 to 23 ----

    private static void questionsOutside() {
        EstateOffice x = new EstateOffice();
        family(x);
        int[] never = {MIN, -2, -1, 31, 32, 33, 64, MAX};
        for (int n : never) {
            due("estate " + n, x.estate(n), -1);
            due("got of " + n, x.got(n, 0), -1);
            due("got what " + n, x.got(0, n), -1);
            due("why of " + n, x.why(n), -1);
            due("rule of " + n, x.rule(n), -1);
            due("KIN " + n, x.kin(n, 0, 80, 0), -1);
            due("KIN of " + n, x.kin(0, n, 80, 0), -1);
            due("KIN the n-th, n " + n, x.kin(0, 0, 80, n), -1);
            due("told of " + n, x.told(n, 0), -1);
            due("told what " + n, x.told(0, n), -1);
            due("outside who " + n, x.outside(n, 0), -1);
            due("outside what " + n, x.outside(0, n), -1);
            due("count " + n, x.count(n), -1);
        }
        Edges.due("the last inside, the first outside", new long[] {x.estate(11), x.estate(12), x.estate(13), x.got(4, 5),
            x.got(4, 6), x.got(5, 0), x.told(4, 7), x.told(4, 8), x.told(5, 0), x.outside(1, 1), x.outside(1, 2),
            x.outside(2, 1), x.count(10), x.count(11)}, 70, 1, -1, 1, -1, -1, 1, -1, -1, 1, -1, -1, 20, -1);
        Edges.due("KIN: the last inside, the first outside", new long[] {x.kin(2, 3, 80, 1), x.kin(2, 3, 80, 2),
            x.kin(3, 3, 80, 0), x.kin(2, 4, 80, 0), x.kin(2, 5, 80, 0), x.kin(2, 3, 100000, 1), x.kin(2, 3, 100001, 1),
            x.kin(2, 3, 12, 1), x.kin(2, 3, 11, 1), x.kin(2, 3, 0, 0), x.kin(2, 3, -1, 0)},
            1, -1, -1, 2, -1, 1, -1, 1, -1, -1, -1);
        // A day ahead of the last death is one, too.
        Edges.due("of ahead", Edges.kinOf(x, 0, 0, 39), 2);
    }

    private static void questionsChangeNothing() {
        Edges.nothingHappens("questions", CallEdgesTest::family, x -> {
            for (int i = -1; i < 14; i++) {
                x.estate(i);
                x.count(i);
                x.got(i / 2, i % 7);
                x.kin(i % 4, i % 6, i * 9, 0);
            }
            return x.why(3) + x.rule(3) + x.told(3, 6) + x.outside(1, 0);
        }, 0 - 1 + 0 + 0);
        Edges.nothingHappens("KIN of an old day, and of a day to come", CallEdgesTest::family,
            x -> x.kin(0, 0, 0, 0) + x.kin(0, 0, 100000, 0), -1 + 2);
    }

    private static void personsOfThen() {
        EstateOffice x = new EstateOffice();
        family(x);
        x.person(0, -1, 0, 71);
        Edges.due("told since: none there", new long[] {x.got(5, 0), x.got(5, 1), x.why(5), x.rule(5)}, -1, -1, -1, -1);
        Edges.due("the last of then", new long[] {x.got(4, 0), x.got(4, 1), x.why(4), x.rule(4)}, 1, 1, 3, 1);
        x.would(0, 70);
        Edges.due("of then, though not born then", new long[] {x.got(5, 0), x.got(5, 1), x.why(5), x.rule(5)}, 0, 1, 0, -1);
        x.would(0, 71);
        Edges.due("born then", new long[] {x.got(5, 0), x.got(5, 1), x.why(5), x.rule(5)}, 1, 4, 3, 1);
        x.open(2);
        Edges.due("none there, by open too", new long[] {x.got(5, 0), x.why(5), x.rule(5)}, -1, -1, -1);
    }
}
