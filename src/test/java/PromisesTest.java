/** For each promise: ordinary inputs, the edges that the document names, and wrong inputs. */
public final class PromisesTest {
    private static int wrong = 0;

    public static void main(String[] args) {
        newObject();
        feedAndBack();
        tokens();
        syntax();
        room();
        anyTokenIsTooMany();
        twiceUnknownWrong();
        placeAndLaw();
        person();
        mates();
        wealth();
        owes();
        leaves();
        dies();
        settle();
        simultaneous();
        undo();
        would();
        open();
        estate();
        got();
        whyAndRule();
        kin();
        kinPaths();
        parts();
        restWeights();
        giveBack();
        lines();
        debtsInOrder();
        willBound();
        spent();
        spentOnTheWay();
        spentAtTheBounds();
        spentByDebts();
        told();
        outside();
        count();
        System.out.println(wrong == 0 ? "all promises hold" : wrong + " answers are not as due");
        if (wrong != 0) {
            System.exit(1);
        }
    }

    private static void due(String call, long got, long want) {
        if (got != want) {
            wrong++;
            System.out.println(call + " answered " + got + ", due is " + want);
        }
    }

    private static void due(String call, boolean got, boolean want) {
        due(call, got ? 1 : 0, want ? 1 : 0);
    }

    /** Two rows of figures, the first of them asked one after the other. */
    private static void due(String call, long[] got, long... want) {
        for (int i = 0; i < want.length; i++) {
            due(call + " [" + i + "]", got[i], want[i]);
        }
    }

    private static void tape(EstateOffice x, String text) {
        int pad = (20 - text.length() % 20) % 20;
        String all = text + " ".repeat(pad);
        for (int at = 0; at < all.length(); at += 20) {
            int[] w = new int[5];
            for (int i = 0; i < 20; i++) {
                w[i / 4] = w[i / 4] << 8 | all.charAt(at + i);
            }
            x.feed(w[0], w[1], w[2], w[3], w[4]);
        }
        x.back(pad);
    }

    private static void fault(String text, int fault, int place) {
        EstateOffice x = new EstateOffice();
        tape(x, text);
        due("read of '" + text + "'", x.read(), fault);
        due("place of '" + text + "'", x.place(), place);
    }

    private static EstateOffice lawful(String text) {
        EstateOffice x = new EstateOffice();
        law(x, text);
        return x;
    }

    private static void law(EstateOffice x, String text) {
        tape(x, text);
        due("read of '" + text + "'", x.read(), 0);
        due("place of '" + text + "'", x.place(), -1);
    }

    private static long[] partsOf(EstateOffice x, int... persons) {
        long[] all = new long[persons.length * 2];
        for (int i = 0; i < persons.length; i++) {
            all[2 * i] = x.got(persons[i], 0);
            all[2 * i + 1] = x.got(persons[i], 1);
        }
        return all;
    }

    private static long[] worth(EstateOffice x, int p) {
        return new long[] {x.told(p, 6), x.told(p, 7)};
    }

    private static long[] figures(EstateOffice x, int from, int to) {
        long[] all = new long[to - from + 1];
        for (int what = from; what <= to; what++) {
            all[what - from] = x.estate(what);
        }
        return all;
    }

    private static String times(String text, int times) {
        return text.repeat(times);
    }

    // ---- 1 ----

    private static void newObject() {
        EstateOffice x = new EstateOffice();
        due("NONE", EstateOffice.NONE, -1);
        for (int what = 0; what <= 10; what++) {
            due("new count(" + what + ")", x.count(what), 0);
        }
        due("new place", x.place(), -1);
        due("new undo", x.undo(), false);
        due("new open", x.open(0), false);
        due("new estate", x.estate(0), -1);
        due("new estate of", x.estate(10), -1);
        due("new got", x.got(0, 0), -1);
        due("new why", x.why(0), -1);
        due("new rule", x.rule(0), -1);
        due("new kin", x.kin(0, 0, 0, 0), -1);
        due("new told", x.told(0, 0), -1);
        due("new settle", x.settle(0), -1);
        due("new would", x.would(0, 0), -1);
        long[] none = {x.outside(0, 0), x.outside(0, 1), x.outside(1, 0), x.outside(1, 1)};
        due("new outside", none, 0, 1, 0, 1);
        x.person(0, -1, -1, 0);
        due("an empty law gives all to the crown", x.would(0, 0), 0);
        due("crown's part", x.estate(8), 1);
    }

    // ---- 2, 3 ----

    private static void feedAndBack() {
        EstateOffice x = new EstateOffice();
        for (int i = 1; i <= 100; i++) {
            due("feed " + i, x.feed(0x20202020, 0x20202020, 0x20202020, 0x20202020, 0x20202020), 20 * i);
        }
        due("feed 101", x.feed(1, 2, 3, 4, 5), -1);
        due("still 2000", x.count(10), 2000);
        due("back(-1)", x.back(-1), -1);
        due("back(2001)", x.back(2001), -1);
        due("back(0)", x.back(0), 2000);
        due("back(19)", x.back(19), 1981);
        due("feed beyond", x.feed(1, 2, 3, 4, 5), -1);
        due("back(1)", x.back(1), 1980);
        due("feed to the brim", x.feed(0x20202020, 0x20202020, 0x20202020, 0x20202020, 0x20202020), 2000);
        due("read of blanks", x.read(), 0);
        due("tape is empty", x.count(10), 0);
        due("back of none", x.back(1), -1);
        due("back(0) of none", x.back(0), 0);
        // The highest byte first, and the bytes that back() took are gone.
        x.feed(0x6b696e20, 0x61203d20, 0x6368696c, 0x643b2323, 0x23232323);
        x.back(6);
        due("read", x.read(), 0);
        due("one kin", x.count(4), 1);
        // All bits of an int are told.
        x.feed(0xff202020, 0x20202020, 0x20202020, 0x20202020, 0x20202020);
        due("byte 255", x.read(), 1);
        due("byte 255 at 0", x.place(), 0);
        x.feed(0x20202020, 0x20202020, 0x20202020, 0x20202020, 0x20202080);
        due("byte 128", x.read(), 1);
        due("byte 128 at 19", x.place(), 19);
    }

    // ---- 4: tokens ----

    private static void tokens() {
        fault("", 0, -1);
        fault(" \t\n\r ", 0, -1);
        fault("\u000b", 1, 0);
        fault("kin abcdefghij=child;", 0, -1);
        fault("kin abcdefghijk=child;", 1, 4);
        fault("kin a1b2=child;steps a1b2;", 0, -1);
        fault("kin 1a=child;", 1, 4);
        fault("kin aB=child;", 1, 5);
        fault("kina=child;", 1, 0);
        fault("kin\na\r=\tchild ;", 0, -1);
        fault("kin a=childm;", 4, 6);
        fault("kin m=child;kin f=m m|m f;steps f;", 0, -1);
        fault("kin each=child;", 1, 4);
        fault("kin if2=child;kin eachh=if2;", 0, -1);
        fault("kin a=child;fixed a1/2;", 1, 20);
        fault("kin a=child;fixed a 1/2each if a not a;", 0, -1);
        fault("kin a=child;fixed a 999/999;", 0, -1);
        fault("kin a=child;fixed a 1/1000;", 1, 22);
        fault("kin a=child;fixed a 0001/2;", 1, 20);
        fault("kin a=child;fixed a 001/002;", 0, -1);
        fault("kin a=child;rest a 1a 2;", 1, 20);
        fault("kin a=child;rest a1;", 1, 19);
        fault("kin a=child+;", 1, 11);
        // Of all bytes but blanks, only a .. z open a NAME.
        for (char sign = 0; sign < 256; sign++) {
            if (sign != ' ' && sign != '\t' && sign != '\n' && sign != '\r') {
                boolean isName = sign >= 'a' && sign <= 'z';
                fault("kin " + sign + "=child;", isName ? 0 : 1, isName ? -1 : 4);
                fault("kin a=" + sign + ";", isName ? 4 : 1, 6);
            }
        }
        fault("will 1/2;will 0/5;", 0, -1);
        for (String word : new String[] {"kin", "fixed", "each", "if", "not", "bars", "rest", "back", "steps", "will",
            "child", "mother", "father", "mate"}) {
            fault("kin " + word + "=child;", 1, 4);
        }
    }

    // ---- 4: 1 SYNTAX ----

    private static void syntax() {
        fault("kin", 1, 3);
        fault("kin  ", 1, 5);
        fault("kin a", 1, 5);
        fault("kin a=child", 1, 11);
        fault("kin a=;", 1, 6);
        fault("kin a=child.;", 1, 12);
        fault("kin a=child|;", 1, 12);
        fault("kin a=child b;", 1, 12);
        fault("kin a=child m f;", 1, 14);
        fault("kin a=child m.mother f|mate;", 0, -1);
        fault("kin a=child,mate;", 1, 11);
        fault("child", 1, 0);
        fault(";", 1, 0);
        fault("kin a=child;;", 1, 12);
        fault("fixed a;", 1, 7);
        fault("fixed a 1;", 1, 9);
        fault("fixed a 1/;", 1, 10);
        fault("fixed a 1/2 not a if a;", 1, 18);
        fault("fixed a 1/2 if a each;", 1, 17);
        fault("fixed a 1/2 each each;", 1, 17);
        fault("fixed a 1/2 if;", 1, 14);
        fault("bars a;", 1, 6);
        fault("bars a,b;", 1, 6);
        fault("bars a b c;", 1, 9);
        fault("rest a;", 1, 6);
        fault("rest a 1,;", 1, 9);
        fault("rest a 1,b;", 1, 10);
        fault("back;", 1, 4);
        fault("back a 1;", 1, 7);
        fault("steps;", 1, 5);
        fault("steps a,b;", 1, 7);
        fault("will 1;", 1, 6);
        fault("will a;", 1, 5);
        // What stands behind the first of 1 and 2 counts no more; 1 goes ahead of all of 3 to 5.
        fault("fixed z 5/1; $", 1, 13);
        fault("steps z;", 4, 6);
    }

    // ---- 4: 2 ROOM ----

    private static void room() {
        String twenty = "";
        for (int i = 0; i < 20; i++) {
            twenty += "kin a" + i + "=mate;";
        }
        fault(twenty, 0, -1);
        fault(twenty + "kin b=mate;", 2, twenty.length() + 4);
        fault(twenty + "kin =mate;", 1, twenty.length() + 4);
        String a = "kin a=child;";
        fault(a + times("back a;", 30), 0, -1);
        fault(a + times("back a;", 30) + "bars", 2, 12 + 210);
        fault(a + times("back a;", 29) + "fixed a 1/2;rest a 1;", 2, 12 + 203 + 12);
        fault(a + times("back a;", 30) + "steps a;will 1/2;kin b=a;", 0, -1);
        String eight = "child.child.child.child.child.child.child.child";
        fault("kin a=" + eight + "|" + eight + ";", 0, -1);
        fault("kin a=" + eight + ".child;", 2, 6 + 48);
        fault("kin a=" + eight + ".;", 1, 6 + 48);
        fault("kin a=child|" + eight + ".zz m;", 2, 12 + 48);
        String kins = "";
        String list = "";
        String weights = "";
        for (int i = 0; i < 8; i++) {
            kins += "kin a" + i + "=mate;";
            list += (i == 0 ? "" : ",") + "a" + i;
            weights += (i == 0 ? "" : ",") + "a" + i + " 1";
        }
        fault(kins + "back " + list + ";", 0, -1);
        fault(kins + "back " + list + ",a0;", 2, kins.length() + 5 + list.length() + 1);
        fault(kins + "back " + list + ",;", 1, kins.length() + 5 + list.length() + 1);
        fault(kins + "rest " + weights + ";", 0, -1);
        fault(kins + "rest " + weights + ",zz 1;", 2, kins.length() + 5 + weights.length() + 1);
        // 600 TOKENS: 6, 3, 4, 586, 1.
        String full = "kin a=child m;" + "steps a;" + "kin b=a" + times("|a", 293) + ";";
        fault(full, 0, -1);
        fault(full + ";", 1, full.length());
        fault(full + "x", 1, full.length());
        fault(full + "#", 1, full.length());
        fault(full + " ", 0, -1);
        fault(full + " kin", 2, full.length() + 1);
        fault(full + " kin #", 2, full.length() + 1);
        // ROOM goes ahead of a fault of 3 to 5 that stands ahead of it.
        fault("steps z;" + "kin a=" + eight + ".child;", 2, 8 + 6 + 48);
    }

    /** Whole tells of that many TOKENS (12 or more): two KINS, a and b. */
    private static String filler(int tokens) {
        return "kin a=child;kin b=a" + (tokens % 2 == 0 ? "" : " m") + times("|a", (tokens - 10) / 2) + "; ";
    }

    /** Whatever TOKEN is the 601st, it has no ROOM; the text ahead of it has 600. */
    private static void anyTokenIsTooMany() {
        String[] tells = {"kin c = a m | b . child f ;", "fixed a 1 / 2 each if a not a ;", "bars a b ;",
            "rest a 1 , b 2 ;", "back a , b ;", "steps a ;", "will 1 / 2 ;"};
        for (String tell : tells) {
            String[] tokens = tell.split(" ");
            for (int ahead = 0; ahead < tokens.length; ahead++) {
                String text = filler(600 - ahead);
                int place = text.length();
                for (int i = 0; i < ahead; i++) {
                    place += tokens[i].length() + 1;
                }
                fault(text + tell, 2, place);
            }
            String whole = filler(600 - tokens.length) + tell;
            fault(whole, 0, -1);
            // Of one place the least: what is no TOKEN is none too many.
            fault(whole + "!", 1, whole.length());
        }
    }

    // ---- 4: 3 TWICE, 4 NAME, 5 WRONG ----

    private static void twiceUnknownWrong() {
        fault("kin a=child;kin a=mate;", 3, 16);
        fault("kin a=child;kin a=zz;", 3, 16);
        fault("kin a=a;", 4, 6);
        fault("kin a=child|a m;", 4, 12);
        fault("kin a=child;kin b=a.c;kin c=b;", 4, 20);
        fault("kin a=child;rest a 1,a 2;", 3, 21);
        fault("kin a=child;back a,a;", 3, 19);
        fault("kin a=child;rest a 1;rest a 1;back a;back a;steps a;steps a;", 0, -1);
        fault("fixed a 1/2;", 4, 6);
        fault("kin a=child;fixed a 1/2 if b not c;", 4, 27);
        fault("kin a=child;fixed a 1/2 not c;", 4, 28);
        fault("bars a b;", 4, 5);
        fault("kin a=child;bars a b;", 4, 19);
        fault("kin a=child;bars a a;", 5, 19);
        fault("bars a a;", 4, 5);
        fault("rest a 0;", 4, 5);
        fault("back a;", 4, 5);
        fault("kin a=child;rest a 0;", 5, 19);
        fault("kin a=child;rest a 00,a 0;", 5, 19);
        fault("kin a=child;fixed a 1/0;", 5, 22);
        fault("kin a=child;fixed a 0/0;", 5, 22);
        fault("kin a=child;fixed a 2/1;", 5, 22);
        fault("kin a=child;fixed a 2/2;", 0, -1);
        fault("will 3/2;", 5, 7);
        fault("will 0/0;", 5, 7);
        fault("will 3/2;kin a=child;kin a=child;", 5, 7);
        // A KIN may stand in the bars, if and not of its own rule but where WRONG says.
        fault("kin a=child;fixed a 1/2 if a not a;", 0, -1);
    }

    // ---- 4, 5: what a text changes ----

    private static void placeAndLaw() {
        EstateOffice x = lawful("kin a=child;rest a 1;");
        x.person(0, -1, -1, 0);
        x.person(0, -1, 0, 1);
        tape(x, "kin a=mate;kin b=child;zz");
        due("a bad text", x.read(), 1);
        due("its place", x.place(), 23);
        due("its place again", x.place(), 23);
        due("the tape is empty", x.count(10), 0);
        due("the old law's kin", x.count(4), 1);
        due("the old law's rules", x.count(5), 1);
        due("kin of the old law", x.kin(0, 0, 5, 0), 1);
        tape(x, "kin a=mate;kin a=child;");
        due("a text with TWICE", x.read(), 3);
        due("kin of the old law still", x.kin(0, 0, 5, 0), 1);
        law(x, "");
        due("an empty law has no kin", x.count(4), 0);
        due("nor rules", x.count(5), 0);
        due("no kin 0", x.kin(0, 0, 5, 0), -1);
        law(x, "kin a=mate;steps a;will 1/2;");
        due("steps and will are no rules", x.count(5), 0);
        law(x, "kin a=mate;kin b=child;fixed a 1/2;bars a b;rest a 1;back a;");
        due("four rules", x.count(5), 4);
        due("two kin", x.count(4), 2);
    }

    // ---- 6 ----

    private static void person() {
        EstateOffice x = new EstateOffice();
        due("person", x.person(1, -1, -1, 10), 0);
        due("person", x.person(0, -1, -1, 0), 1);
        due("sex 2", x.person(2, -1, -1, 0), -1);
        due("sex -1", x.person(-1, -1, -1, 0), -1);
        due("mother of sex 0", x.person(0, 1, -1, 50), -1);
        due("father of sex 1", x.person(0, -1, 0, 50), -1);
        due("mother -2", x.person(0, -2, -1, 50), -1);
        due("father -2", x.person(0, -1, -2, 50), -1);
        due("itself as mother", x.person(1, 2, -1, 50), -1);
        due("no such father", x.person(1, -1, 30, 50), -1);
        due("born -1", x.person(0, -1, -1, -1), -1);
        due("born 100001", x.person(0, -1, -1, 100001), -1);
        due("born with its mother", x.person(0, 0, -1, 10), -1);
        due("born ahead of its mother", x.person(0, 0, 1, 9), -1);
        due("born with its father", x.person(0, -1, 1, 0), -1);
        due("still two", x.count(0), 2);
        due("born behind both", x.person(0, 0, 1, 11), 2);
        due("born 100000", x.person(0, -1, -1, 100000), 3);
        for (int i = 4; i < 30; i++) {
            due("person " + i, x.person(i % 2, -1, -1, i), i);
        }
        due("person 31", x.person(0, -1, -1, 5), -1);
        due("30 persons", x.count(0), 30);
        // A dead one may be told as a parent, and a person of before the last death.
        EstateOffice y = new EstateOffice();
        y.person(0, -1, -1, 0);
        y.dies(0);
        y.settle(50);
        due("child of a dead one", y.person(0, -1, 0, 60), 1);
        due("born ahead of the last day", y.person(0, -1, -1, 1), 2);
    }

    // ---- 7 ----

    private static void mates() {
        EstateOffice x = lawful("kin a=mate;");
        x.person(0, -1, -1, 0);
        x.person(0, -1, -1, 0);
        x.person(1, -1, -1, 55);
        due("mates", x.mates(0, 1, 10, 20), true);
        due("no such", x.mates(0, 3, 10, 20), false);
        due("no such", x.mates(-1, 1, 10, 20), false);
        due("one and the same", x.mates(1, 1, 10, 20), false);
        due("from -1", x.mates(0, 1, -1, 20), false);
        due("from 100001", x.mates(0, 1, 100001, -1), false);
        due("until from", x.mates(0, 1, 20, 20), false);
        due("until ahead", x.mates(0, 1, 20, 19), false);
        due("until -2", x.mates(0, 1, 20, -2), false);
        due("until 100001", x.mates(0, 1, 20, 100001), false);
        due("until 0", x.mates(0, 1, 0, 0), false);
        due("one told", x.count(1), 1);
        // Mates on the day ahead of the day asked.
        due("day 10", x.kin(0, 0, 10, 0), -1);
        due("day 11", x.kin(0, 0, 11, 0), 1);
        due("day 11, the other", x.kin(0, 1, 11, 0), 0);
        due("day 20", x.kin(0, 0, 20, 0), 1);
        due("day 21", x.kin(0, 0, 21, 0), -1);
        due("none on the day", x.kin(0, 0, 60, 0), -1);
        due("for ever", x.mates(2, 0, 0, -1), true);
        due("at once", x.kin(0, 0, 60, 0), 2);
        due("not born", x.kin(0, 0, 54, 0), -1);
        due("born", x.kin(0, 0, 55, 0), 2);
        due("for ever", x.kin(0, 0, 100000, 0), 2);
        due("day 0 has no day ahead", x.kin(0, 2, 0, 0), -1);
        due("day 1", x.kin(0, 2, 1, 0), 0);
        due("until 100000", x.mates(0, 1, 99999, 100000), true);
        for (int i = 3; i < 60; i++) {
            due("mates " + i, x.mates(0, 1, 1, 2), true);
        }
        due("mates 61", x.mates(0, 1, 1, 2), false);
        due("60 mates", x.count(1), 60);
    }

    // ---- 8 ----

    private static void wealth() {
        EstateOffice x = new EstateOffice();
        x.person(0, -1, -1, 0);
        due("no such", x.wealth(1, 5), false);
        due("no such", x.wealth(-1, 5), false);
        due("100000", x.wealth(0, 100000), true);
        due("100001", x.wealth(0, 100001), false);
        due("-1", x.wealth(0, -1), false);
        due("kept", worth(x, 0), 100000, 1);
        due("0", x.wealth(0, 0), true);
        due("becomes", worth(x, 0), 0, 1);
        x.dies(0);
        due("listed, not dead", x.wealth(0, 7), true);
        x.settle(0);
        due("died", x.wealth(0, 8), false);
        due("left", worth(x, 0), 0, 1);
        x.undo();
        due("lives again", x.wealth(0, 9), true);
    }

    // ---- 9 ----

    private static void owes() {
        EstateOffice x = new EstateOffice();
        x.person(0, -1, -1, 0);
        x.person(0, -1, -1, 0);
        due("no such p", x.owes(2, 0, 5), false);
        due("no such p", x.owes(-1, 0, 5), false);
        due("no such q", x.owes(0, 2, 5), false);
        due("no such q", x.owes(0, -2, 5), false);
        due("itself", x.owes(0, 0, 5), false);
        due("0", x.owes(0, 1, 0), false);
        due("-1", x.owes(0, 1, -1), false);
        due("100001", x.owes(0, 1, 100001), false);
        due("none told", x.count(2), 0);
        due("1", x.owes(0, 1, 1), true);
        due("100000 to a stranger", x.owes(0, -1, 100000), true);
        x.dies(1);
        x.settle(1);
        due("to a dead one", x.owes(0, 1, 5), true);
        due("of a dead one", x.owes(1, 0, 5), false);
        for (int i = 3; i < 60; i++) {
            due("debt " + i, x.owes(0, 1, 1), true);
        }
        due("debt 61", x.owes(0, 1, 1), false);
        due("60 debts", x.count(2), 60);
    }

    // ---- 10 ----

    private static void leaves() {
        EstateOffice x = new EstateOffice();
        x.person(0, -1, -1, 0);
        x.person(0, -1, -1, 0);
        due("no such p", x.leaves(2, 0, 1, 2), false);
        due("no such p", x.leaves(-1, 0, 1, 2), false);
        due("no such q", x.leaves(0, 2, 1, 2), false);
        due("no stranger", x.leaves(0, -1, 1, 2), false);
        due("itself", x.leaves(0, 0, 1, 2), false);
        due("above 0", x.leaves(0, 1, 0, 2), false);
        due("above -1", x.leaves(0, 1, -1, 2), false);
        due("above more", x.leaves(0, 1, 3, 2), false);
        due("below 0", x.leaves(0, 1, 0, 0), false);
        due("below -1", x.leaves(0, 1, -1, -1), false);
        due("below 1001", x.leaves(0, 1, 1, 1001), false);
        due("none told", x.count(3), 0);
        due("1/1", x.leaves(0, 1, 1, 1), true);
        due("1000/1000", x.leaves(0, 1, 1000, 1000), true);
        x.dies(1);
        x.settle(1);
        due("to a dead one", x.leaves(0, 1, 1, 5), true);
        due("of a dead one", x.leaves(1, 0, 1, 5), false);
        for (int i = 3; i < 60; i++) {
            due("legacy " + i, x.leaves(0, 1, 1, 1000), true);
        }
        due("legacy 61", x.leaves(0, 1, 1, 1), false);
        due("60 legacies", x.count(3), 60);
    }

    // ---- 11 ----

    private static void dies() {
        EstateOffice x = new EstateOffice();
        x.person(0, -1, -1, 9);
        due("no such", x.dies(1), false);
        due("no such", x.dies(-1), false);
        due("listed", x.dies(0), true);
        due("listed already", x.dies(0), false);
        due("one listed", x.count(6), 1);
        due("told", x.told(0, 5), 1);
        due("does not die yet", x.told(0, 4), -1);
        x.settle(9);
        due("died", x.dies(0), false);
        due("not listed", x.told(0, 5), 0);
    }

    // ---- 12 ----

    private static void settle() {
        EstateOffice x = lawful("kin a=child;rest a 1;");
        x.person(0, -1, -1, 10);
        x.person(0, -1, 0, 20);
        x.person(0, -1, 1, 40);
        x.wealth(0, 30);
        due("none listed", x.settle(50), -1);
        x.dies(0);
        due("not born", x.settle(9), -1);
        due("day -1", x.settle(-1), -1);
        due("day 100001", x.settle(100001), -1);
        x.dies(2);
        due("one of them not born", x.settle(39), -1);
        due("nothing happened", x.count(6), 2);
        due("nobody died", x.told(0, 4), -1);
        due("both", x.settle(40), 2);
        due("list is empty", x.count(6), 0);
        due("all to the child", worth(x, 1), 30, 1);
        due("last day", x.count(9), 40);
        x.dies(1);
        due("a day below the last", x.settle(39), -1);
        due("the last day", x.settle(40), 1);
        due("the crown has it", x.outside(1, 0), 30);
        due("at hand is none by settle", x.estate(10), -1);
        due("deaths", x.count(8), 2);
        due("estates", x.count(7), 3);
        due("died", x.told(1, 4), 40);
        x.person(0, -1, -1, 0);
        x.dies(3);
        due("day 100000", x.settle(100000), 1);
    }

    private static void simultaneous() {
        // Who dies on the same day lives for none of the estates, whatever the numbers.
        EstateOffice x = lawful("kin a=child;rest a 1;kin b=mate;rest b 1;");
        x.person(0, -1, -1, 0);
        x.person(1, -1, -1, 0);
        x.person(0, 1, 0, 20);
        x.mates(0, 1, 5, -1);
        x.wealth(0, 100);
        x.wealth(1, 50);
        x.wealth(2, 7);
        x.dies(1);
        x.dies(0);
        x.dies(2);
        due("three", x.settle(30), 3);
        due("the crown", x.outside(1, 0), 157);
        x.undo();
        x.dies(2);
        due("all listed again, no more", x.count(6), 3);
        // One that is not born yet does not live either, and has no line.
        EstateOffice y = lawful("kin a=child;steps a;rest a 1;");
        y.person(0, -1, -1, 0);
        y.person(0, -1, 0, 20);
        y.person(0, -1, 1, 40);
        y.person(0, -1, 0, 90);
        y.wealth(0, 8);
        y.dies(0);
        y.dies(1);
        due("two", y.settle(39), 2);
        due("the unborn get nothing", y.outside(1, 0), 8);
        y.undo();
        due("two", y.settle(40), 2);
        due("a grandchild stands for its father", worth(y, 2), 8, 1);
        due("open", y.open(0), true);
        due("it is no head", y.why(2), 5);
        due("its father is", y.why(1), 3);
        due("the unborn child", y.why(3), 0);
    }

    // ---- 13 ----

    private static void undo() {
        EstateOffice x = lawful("kin a=child;rest a 1;");
        x.person(0, -1, -1, 0);
        x.person(0, -1, 0, 20);
        x.person(0, -1, -1, 20);
        x.wealth(0, 100);
        x.owes(0, -1, 30);
        due("no death", x.undo(), false);
        x.dies(0);
        x.settle(30);
        due("child", worth(x, 1), 70, 1);
        due("stranger", x.outside(0, 0), 30);
        x.open(0);
        x.dies(1);
        x.settle(40);
        due("crown", x.outside(1, 0), 70);
        x.dies(2);
        x.person(0, -1, -1, 3);
        x.wealth(3, 11);
        x.wealth(2, 5);
        x.owes(2, -1, 1);
        law(x, "");
        due("undo", x.undo(), true);
        due("the one who died is listed", x.told(1, 5), 1);
        due("nobody else is", x.told(2, 5), 0);
        due("lives", x.told(1, 4), -1);
        due("its wealth", worth(x, 1), 70, 1);
        due("wealth told since of one told by then", worth(x, 2), 0, 1);
        due("wealth of one told since stays", worth(x, 3), 11, 1);
        due("crown", x.outside(1, 0), 0);
        due("stranger stays", x.outside(0, 0), 30);
        due("last day", x.count(9), 30);
        due("its estate is none", x.open(1), false);
        due("the one ahead is", x.open(0), true);
        due("the law stays", x.count(4), 0);
        due("debts stay", x.count(2), 2);
        due("one death", x.count(8), 1);
        due("one estate", x.count(7), 1);
        due("undo", x.undo(), true);
        due("only the first is listed", x.count(6), 1);
        due("it is", x.told(0, 5), 1);
        due("wealth", worth(x, 0), 100, 1);
        due("child", worth(x, 1), 0, 1);
        due("stranger", x.outside(0, 0), 0);
        due("last day", x.count(9), 0);
        due("at hand it stays", x.estate(10), 0);
        due("at hand its figures stay", x.estate(4), 70);
        due("and its persons", x.got(1, 0), 1);
        due("of then", x.got(3, 0), -1);
        due("open", x.open(0), false);
        due("no more", x.undo(), false);
        due("it can die again, by the new law", x.settle(5), -1 + 2);
        due("to the crown", x.outside(1, 0), 70);
        due("the old one is at hand still", x.estate(11), 30);
    }

    // ---- 14 ----

    private static void would() {
        EstateOffice x = lawful("kin a=child;rest a 1;");
        x.person(0, -1, -1, 5);
        x.person(0, -1, 0, 20);
        x.person(0, -1, 0, 30);
        x.wealth(0, 100);
        x.wealth(1, 9);
        due("no such", x.would(3, 50), -1);
        due("no such", x.would(-1, 50), -1);
        due("not born", x.would(0, 4), -1);
        due("day -1", x.would(0, -1), -1);
        due("day 100001", x.would(0, 100001), -1);
        due("none at hand", x.estate(10), -1);
        x.dies(1);
        due("would", x.would(0, 30), 0);
        due("a listed one lives for it", partsOf(x, 1, 2), 1, 2, 1, 2);
        due("whose", x.estate(10), 0);
        due("the day", x.estate(11), 30);
        due("nothing else happens", worth(x, 0), 100, 1);
        due("nothing else happens", worth(x, 2), 0, 1);
        due("no death", x.count(8), 0);
        due("not settled", x.open(0), false);
        due("listed still", x.count(6), 1);
        due("last day", x.count(9), 0);
        x.settle(40);
        due("at hand till another", x.estate(10), 0);
        due("not as for settle", x.would(0, 39), -1);
        due("it died", x.would(1, 50), -1);
        due("the last day", x.would(0, 40), 0);
        due("now alone", partsOf(x, 1, 2), 0, 1, 1, 1);
        due("day 100000", x.would(0, 100000), 0);
        due("twice the same", x.would(0, 100000), 0);
        due("its parted", x.estate(4), 100);
    }

    // ---- 15 ----

    private static void open() {
        EstateOffice x = new EstateOffice();
        x.person(0, -1, -1, 0);
        x.person(0, -1, -1, 0);
        x.wealth(0, 5);
        x.wealth(1, 6);
        x.dies(0);
        due("listed only", x.open(0), false);
        x.settle(1);
        due("settled", x.open(0), true);
        due("alive", x.open(1), false);
        due("no such", x.open(-1), false);
        due("no such", x.open(2), false);
        due("no such", x.open(30), false);
        due("stays at hand", x.estate(10), 0);
        x.dies(1);
        x.settle(2);
        due("the other", x.open(1), true);
        due("whose", x.estate(10), 1);
        due("its mass", x.estate(4), 6);
        due("again", x.open(0), true);
        due("its mass", x.estate(4), 5);
        x.would(1, 3);
        due("a would of a dead one changes nothing", x.estate(10), 0);
    }

    // ---- 16 ----

    private static void estate() {
        EstateOffice x = lawful("kin c=child;kin m=mate;fixed m 1/4;fixed c 1/2;will 1/3;");
        x.person(0, -1, -1, 0);
        x.person(1, -1, -1, 0);
        x.person(0, 1, 0, 20);
        x.person(0, -1, -1, 20);
        x.mates(0, 1, 10, -1);
        x.wealth(0, 100);
        x.owes(0, 3, 10);
        x.owes(0, -1, 15);
        x.leaves(0, 3, 1, 5);
        due("would", x.would(0, 30), 0);
        due("figures", figures(x, 0, 12), 25, 1, 15, 1, 60, 1, 3, 4, 1, 4, 0, 30, -1);
        due("13", x.estate(13), -1);
        due("-1", x.estate(-1), -1);
        law(x, "kin c=child;back c;kin m=mate;fixed m 1/4;fixed c 1/2;");
        due("old figures stay", figures(x, 0, 12), 25, 1, 15, 1, 60, 1, 3, 4, 1, 4, 0, 30, -1);
        x.would(0, 30);
        due("figures", figures(x, 0, 12), 25, 1, 0, 1, 75, 1, 3, 4, 0, 1, 0, 30, 0);
        law(x, "kin c=child;back c;kin m=mate;fixed m 1/2;rest c 7;");
        x.would(0, 31);
        due("figures", figures(x, 6, 12), 1, 2, 0, 1, 0, 31, 2);
        // No rest, no rule by which it went.
        law(x, "kin c=child;kin m=mate;fixed m 1/2;fixed c 1/2;rest c 7;back c;");
        x.would(0, 31);
        due("figures", figures(x, 6, 12), 1, 1, 0, 1, 0, 31, -1);
        law(x, "kin c=child;kin m=mate;fixed m 1/2;fixed c 3/4;rest c 7;back c;");
        x.would(0, 31);
        due("figures", figures(x, 6, 12), 5, 4, 0, 1, 0, 31, -1);
        due("lessened", partsOf(x, 1, 2), 2, 5, 3, 5);
    }

    // ---- 17 ----

    private static void got() {
        EstateOffice x = lawful("kin c=child;rest c 1;will 1/2;");
        x.person(0, -1, -1, 0);
        x.person(0, -1, 0, 1);
        x.person(0, -1, 0, 2);
        x.wealth(0, 100);
        x.owes(0, 1, 10);
        x.owes(0, 1, 20);
        x.leaves(0, 1, 1, 7);
        x.leaves(0, 1, 1, 14);
        x.leaves(0, 2, 1, 10);
        x.would(0, 30);
        long[] all = new long[12];
        for (int i = 0; i < 12; i++) {
            all[i] = x.got(1 + i / 6, i % 6);
        }
        due("got", all, 1, 2, 15, 1, 30, 1, 1, 2, 7, 1, 0, 1);
        long[] dead = {x.got(0, 0), x.got(0, 1), x.got(0, 2), x.got(0, 3), x.got(0, 4), x.got(0, 5)};
        due("the dead one", dead, 0, 1, 0, 1, 0, 1);
        due("what 6", x.got(1, 6), -1);
        due("what -1", x.got(1, -1), -1);
        due("no such", x.got(3, 0), -1);
        due("no such", x.got(-1, 0), -1);
        x.person(0, -1, -1, 0);
        due("told since", x.got(3, 0), -1);
        x.would(0, 30);
        due("told by then", x.got(3, 1), 1);
    }

    // ---- 18, 19 ----

    private static void whyAndRule() {
        EstateOffice x = lawful("kin c=child;kin m=mate;kin p=mother|father;kin s=p.child;kin g=p.p;kin z=child.child;"
            + "steps z;bars m s;bars c s;bars p g;fixed p 1/6;fixed p 1/3;fixed m 0/5;rest c 1,m 1;rest s 1;");
        x.person(0, -1, -1, 0);
        x.person(1, -1, -1, 0);
        x.person(0, 1, 0, 20);
        x.person(0, 1, 0, 21);
        x.person(1, -1, -1, 22);
        x.person(0, 4, 2, 40);
        x.person(0, -1, 3, 41);
        x.person(0, -1, -1, 3);
        x.mates(2, 4, 30, -1);
        due("would", x.would(2, 50), 0);
        due("dead one", x.why(2), 6);
        due("dead one", x.rule(2), -1);
        due("barred by its mate", x.why(3), 1);
        due("the first bars", x.rule(3), 0);
        due("mother", x.why(1), 2);
        due("the first fixed", x.rule(1), 3);
        due("a P of 0 is a P", x.why(4), 2);
        due("its rule", x.rule(4), 5);
        due("child", x.why(5), 3);
        due("by the rest", x.rule(5), 6);
        due("a nephew is nobody", x.why(6), 0);
        due("its rule", x.rule(6), -1);
        due("a stranger", x.why(7), 0);
        due("no such", x.why(8), -1);
        due("no such", x.rule(8), -1);
        due("no such", x.why(-1), -1);
        due("no such", x.rule(-1), -1);
        due("parts", partsOf(x, 0, 1, 4, 5, 3), 1, 12, 1, 12, 5, 12, 5, 12, 0, 1);
        x.person(0, -1, -1, 0);
        due("of then", x.why(8), -1);
        // A child that is dead: its own child gets its part by a line, or none if it is a head elsewhere.
        x.dies(5);
        x.settle(50);
        due("child of the dead child", x.person(1, -1, 5, 44), 9);
        x.would(2, 50);
        due("a dead child is no head without steps", x.why(5), 0);
        due("the grandchild is a head of z, with nothing", x.why(9), 4);
        due("no rule", x.rule(9), -1);
        law(x, "kin c=child;steps c;rest c 1;");
        x.would(2, 50);
        due("a head by its line", x.why(5), 3);
        due("by a line", x.why(9), 5);
        due("no rule", x.rule(9), -1);
        law(x, "kin c=child;steps c;rest c 1;kin z=child.child;");
        x.would(2, 50);
        due("a head of some kin", x.why(9), 4);
        due("though it has a part", partsOf(x, 9), 1, 1);
        law(x, "kin c=child;kin s=mother.child;bars s c;bars c s;steps c;fixed c 1/2;");
        x.would(2, 50);
        due("both bar each other", x.why(5), 1);
        due("the first", x.rule(5), 0);
        due("the other one", x.why(3), 1);
        due("by the second", x.rule(3), 1);
        due("the barred have nothing", x.estate(6), 0);
        // None bars itself: only another head bars.
        law(x, "kin a=mother.child;kin b=father.child;bars a b;fixed b 1/2;");
        x.would(2, 50);
        due("not by itself", x.why(3), 2);
        due("its fixed", x.rule(3), 1);
    }

    // ---- 20 ----

    private static void kin() {
        EstateOffice x = lawful("kin a=child;kin b=mother|father;");
        x.person(1, -1, -1, 0);
        x.person(0, -1, -1, 0);
        x.person(0, 0, 1, 30);
        x.person(1, 0, 1, 20);
        due("by numbers", x.kin(0, 0, 30, 0), 2);
        due("by numbers", x.kin(0, 0, 30, 1), 3);
        due("not so many", x.kin(0, 0, 30, 2), -1);
        due("i -1", x.kin(0, 0, 30, -1), -1);
        due("born by then", x.kin(0, 0, 29, 0), 3);
        due("none born by then", x.kin(0, 0, 19, 0), -1);
        due("kin 2", x.kin(2, 0, 30, 0), -1);
        due("kin -1", x.kin(-1, 0, 30, 0), -1);
        due("no such", x.kin(0, 4, 30, 0), -1);
        due("no such", x.kin(0, -1, 30, 0), -1);
        due("day -1", x.kin(0, 0, -1, 0), -1);
        due("day 100001", x.kin(0, 0, 100001, 0), -1);
        due("day 100000", x.kin(0, 0, 100000, 0), 2);
        due("of one not born yet", x.kin(1, 2, 5, 1), 1);
        x.dies(2);
        x.settle(40);
        due("living or dead", x.kin(0, 1, 50, 0), 2);
        due("a day of before", x.kin(0, 1, 25, 0), 3);
        due("told since", x.person(0, 0, -1, 50), 4);
        due("is kin at once", x.kin(0, 0, 50, 2), 4);
        law(x, "kin a=mother;");
        due("by the new law", x.kin(0, 4, 50, 0), 0);
    }

    private static void kinPaths() {
        EstateOffice x = lawful("kin p=mother|father;kin s=p.child;kin sm=s m;kin sf=p.child f;kin n=s.child;"
            + "kin st=mate.mate.child;kin ss=s.s;kin o=mate f.child m|father m.father m;");
        x.person(0, -1, -1, 0);
        x.person(1, -1, -1, 0);
        x.person(1, 1, 0, 20);
        x.person(0, 1, 0, 21);
        x.person(0, -1, 0, 22);
        x.person(0, 2, -1, 40);
        x.person(0, -1, 4, 41);
        x.mates(0, 1, 0, -1);
        due("full and half", new long[] {x.kin(1, 2, 60, 0), x.kin(1, 2, 60, 1), x.kin(1, 2, 60, 2)}, 3, 4, -1);
        due("brothers of 3", new long[] {x.kin(2, 3, 60, 0), x.kin(2, 3, 60, 1)}, 4, -1);
        due("sisters of 3", new long[] {x.kin(3, 3, 60, 0), x.kin(3, 3, 60, 1)}, 2, -1);
        due("nephews of 3", new long[] {x.kin(4, 3, 60, 0), x.kin(4, 3, 60, 1), x.kin(4, 3, 60, 2)}, 5, 6, -1);
        due("a path may go over its own d", new long[] {x.kin(5, 0, 60, 0), x.kin(5, 0, 60, 1), x.kin(5, 0, 60, 2),
            x.kin(5, 0, 60, 3)}, 2, 3, 4, -1);
        due("but each NAME leaves out its own", new long[] {x.kin(6, 2, 60, 0), x.kin(6, 2, 60, 1), x.kin(6, 2, 60, 2)},
            3, 4, -1);
        due("step's sexes", new long[] {x.kin(7, 0, 60, 0), x.kin(7, 0, 60, 1)}, 3, -1);
        due("father's father", new long[] {x.kin(7, 6, 60, 0), x.kin(7, 6, 60, 1)}, 0, -1);
        due("no father is mother", x.kin(7, 5, 60, 0), -1);
    }

    // ---- III ----

    /** 0 dead; 1, 2 its parents; 3 its mate; 4 .. 6 its children; 7 a brother. */
    private static EstateOffice family(String text) {
        EstateOffice x = lawful("kin c=child;kin fa=father;kin mo=mother;kin w=mate;kin d=child f;kin s=child m;"
            + "kin b=mother.child|father.child;" + text);
        x.person(0, -1, -1, 0);
        x.person(1, -1, -1, 0);
        x.person(0, 1, 0, 20);
        x.person(1, -1, -1, 20);
        x.person(0, 3, 2, 40);
        x.person(1, 3, 2, 41);
        x.person(1, 3, 2, 42);
        x.person(0, 1, 0, 25);
        x.mates(3, 2, 30, -1);
        x.wealth(2, 1200);
        return x;
    }

    private static void parts() {
        EstateOffice x = family("fixed d 2/3;fixed fa 1/6;fixed mo 1/6;");
        x.would(2, 60);
        due("each of two", partsOf(x, 5, 6, 0, 1, 4), 1, 3, 1, 3, 1, 6, 1, 6, 0, 1);
        x = family("fixed d 2/5 each;fixed c 1/5;fixed c 1/2;");
        x.would(2, 60);
        due("a part once only", partsOf(x, 5, 6, 4), 2, 5, 2, 5, 1, 5);
        due("sum", figures(x, 6, 9), 1, 1, 0, 1);
        x = family("fixed fa 1/2 if c;fixed mo 1/2 not c;fixed w 1/4 if c not d;fixed s 1/4 if b not mo;fixed b 1/8 if d;");
        x.would(2, 60);
        due("if and not", partsOf(x, 0, 1, 3, 4, 7), 1, 2, 0, 1, 0, 1, 0, 1, 1, 8);
        due("sum", figures(x, 6, 9), 5, 8, 3, 8);
        x = family("bars s d;bars c b;fixed d 1/2;fixed b 1/4;fixed mo 1/4 if b;");
        x.would(2, 60);
        due("barred have none, but are heads for if", partsOf(x, 5, 6, 7, 1), 0, 1, 0, 1, 0, 1, 1, 4);
        x = family("fixed d 2/3;fixed fa 1/2;fixed w 1/8;");
        x.would(2, 60);
        due("too much is lessened", partsOf(x, 5, 6, 0, 3), 8, 31, 8, 31, 12, 31, 3, 31);
        due("sum ahead", figures(x, 6, 9), 31, 24, 0, 1);
        x = family("fixed d 1/2 each;fixed fa 1/2 each;rest s 1;back d;");
        x.would(2, 60);
        due("each by n counts n times", figures(x, 6, 12), 3, 2, 0, 1, 2, 60, -1);
        due("lessened", partsOf(x, 5, 6, 0, 4), 1, 3, 1, 3, 1, 3, 0, 1);
        // A P of 0 is one: no later fixed gives again; but a rest adds to it.
        x = family("fixed fa 0/7;fixed fa 1/2;rest fa 1;");
        x.would(2, 60);
        due("P of 0", figures(x, 6, 12), 0, 1, 0, 1, 2, 60, 2);
        due("and all", partsOf(x, 0), 1, 1);
        due("by a fixed", x.why(0), 2);
    }

    private static void restWeights() {
        EstateOffice x = family("fixed w 1/8;rest b 1;rest s 2,d 1;");
        x.would(2, 60);
        due("the first rest with a head", figures(x, 6, 12), 1, 8, 0, 1, 2, 60, 1);
        due("all to the brother", partsOf(x, 7, 4), 7, 8, 0, 1);
        x = family("fixed w 1/8;bars c b;rest b 1;rest s 2,d 1;");
        x.would(2, 60);
        due("a barred one is none", figures(x, 6, 12), 1, 8, 0, 1, 2, 60, 3);
        due("by weights", partsOf(x, 3, 4, 5, 6), 1, 8, 7, 16, 7, 32, 7, 32);
        x = family("rest d 1,c 5,s 3;");
        x.would(2, 60);
        due("counted in the first that has it", partsOf(x, 4, 5, 6), 5, 7, 1, 7, 1, 7);
        x = family("fixed fa 1/6;rest s 1,fa 1;");
        x.would(2, 60);
        due("more to a fixed part", partsOf(x, 0, 4), 7, 12, 5, 12);
        due("why is the fixed", x.why(0), 2);
        due("rule is the fixed", x.rule(0), 0);
        due("by the rest alone", x.rule(4), 1);
        x = family("rest s 999,d 1;");
        x.would(2, 60);
        due("the weight is each one's", partsOf(x, 4, 5), 999, 1001, 1, 1001);
    }

    private static void giveBack() {
        EstateOffice x = family("fixed d 1/2;fixed mo 1/6;fixed w 1/8;back s;back d,mo;");
        x.would(2, 60);
        due("the first back with a part", figures(x, 6, 12), 19, 24, 0, 1, 2, 60, 4);
        due("in the measure of the parts", partsOf(x, 5, 6, 1, 3), 21, 64, 21, 64, 7, 32, 1, 8);
        x = family("fixed mo 1/6;back d,s;");
        x.would(2, 60);
        due("no part, no back", figures(x, 6, 12), 1, 6, 5, 6, 2, 60, -1);
        x = family("fixed mo 0/6;back mo;");
        x.would(2, 60);
        due("a P of 0 is no part to give back to", figures(x, 6, 12), 0, 1, 1, 1, 2, 60, -1);
        x = family("fixed mo 1/6;back mo;rest s 1;");
        x.would(2, 60);
        due("a rest goes first", figures(x, 6, 12), 1, 6, 0, 1, 2, 60, 2);
        x = family("fixed c 1/6;back d,c;");
        x.would(2, 60);
        due("each once", partsOf(x, 4, 5, 6), 1, 3, 1, 3, 1, 3);
    }

    private static void lines() {
        // 0 dead; children 1 (dead, with 3, 4 of which 3 is dead with 6), 2 (dead, no line), 5.
        EstateOffice x = lawful("kin c=child;steps c;kin dc=child;rest c 1;");
        x.person(0, -1, -1, 0);
        x.person(0, -1, 0, 10);
        x.person(1, -1, 0, 11);
        x.person(1, -1, 1, 30);
        x.person(0, -1, 1, 31);
        x.person(0, -1, 0, 12);
        x.person(0, 3, -1, 50);
        x.wealth(0, 120);
        x.dies(1);
        x.dies(2);
        x.dies(3);
        x.settle(60);
        due("would", x.would(0, 60), 0);
        due("by lines", partsOf(x, 5, 4, 6, 1, 2, 3), 1, 2, 1, 4, 1, 4, 0, 1, 0, 1, 0, 1);
        due("why", new long[] {x.why(1), x.why(2), x.why(3), x.why(4), x.why(5), x.why(6)}, 3, 0, 0, 5, 3, 5);
        x.dies(0);
        x.dies(6);
        x.settle(61);
        due("settled", worth(x, 5), 60, 1);
        due("who dies with it has no part", worth(x, 4), 60, 1);
        // By both parents: the parts of two lines are added.
        EstateOffice y = lawful("kin c=child;steps c;rest c 1;");
        y.person(0, -1, -1, 0);
        y.person(0, -1, 0, 10);
        y.person(1, -1, 0, 11);
        y.person(0, 2, 1, 30);
        y.person(0, -1, 1, 31);
        y.wealth(0, 100);
        y.dies(1);
        y.dies(2);
        y.settle(60);
        y.would(0, 60);
        due("of both", partsOf(y, 3, 4), 3, 4, 1, 4);
        // Without STEPS a dead one is no head, and bars nobody.
        law(y, "kin c=child;kin g=child.child;bars c g;rest g 1;");
        y.would(0, 60);
        due("no steps", partsOf(y, 3, 4), 1, 2, 1, 2);
        law(y, "kin c=child;kin g=child.child;bars c g;rest g 1;steps c;");
        y.would(0, 60);
        due("steps told behind count for all", partsOf(y, 3, 4), 0, 1, 0, 1);
        due("barred", y.why(3), 1);
        // The dead one's own children stand for it in the line of its dead parent.
        EstateOffice z = lawful("kin f=father;steps f;rest f 1;");
        z.person(0, -1, -1, 0);
        z.person(0, -1, 0, 20);
        z.person(0, -1, 1, 40);
        z.dies(0);
        z.settle(50);
        z.would(1, 50);
        due("by its father's line to its own child", partsOf(z, 2), 1, 1);
        due("by a line", z.why(2), 5);
        due("its father", z.why(0), 3);
        // A dead father without anyone that lives is no head.
        EstateOffice v = lawful("kin f=father;steps f;rest f 1;");
        v.person(0, -1, -1, 0);
        v.person(0, -1, 0, 20);
        v.dies(0);
        v.settle(50);
        due("would", v.would(1, 50), 0);
        due("no line, no head", v.why(0), 0);
        due("the crown", figures(v, 8, 9), 1, 1);
    }

    // ---- IV ----

    private static void debtsInOrder() {
        EstateOffice x = lawful("kin c=child;rest c 1;");
        x.person(0, -1, -1, 0);
        x.person(0, -1, 0, 10);
        x.person(0, -1, -1, 10);
        x.person(0, -1, -1, 70);
        x.wealth(0, 100);
        x.wealth(1, 1);
        x.owes(0, 3, 90);
        x.owes(0, 2, 60);
        x.owes(1, 2, 1000);
        x.owes(0, -1, 30);
        x.owes(0, 1, 30);
        x.owes(0, 2, 30);
        x.leaves(0, 2, 1, 2);
        x.dies(0);
        x.settle(50);
        due("to the unborn none, as told, as far as it goes", new long[] {x.told(1, 6), x.told(2, 6), x.told(3, 6),
            x.outside(0, 0), x.outside(1, 0)}, 11, 60, 0, 30, 0);
        x.open(0);
        due("figures", figures(x, 0, 5), 100, 1, 0, 1, 0, 1);
        due("the parts stand without a mass", partsOf(x, 1), 1, 1);
        due("paid to 1", x.got(1, 4), 10);
        due("paid to 2", x.got(2, 4), 60);
        // A part of a debt may be a fraction.
        EstateOffice y = lawful("kin c=child;rest c 1;");
        y.person(0, -1, -1, 0);
        y.person(0, -1, 0, 10);
        y.person(0, -1, 0, 10);
        y.person(0, -1, 0, 10);
        y.wealth(0, 100);
        y.owes(1, 2, 30);
        y.owes(1, -1, 30);
        y.dies(0);
        y.settle(20);
        y.dies(1);
        y.settle(20);
        due("2 got", worth(y, 2), 190, 3);
        due("strangers got", new long[] {y.outside(0, 0), y.outside(0, 1)}, 10, 3);
    }

    private static void willBound() {
        EstateOffice x = lawful("kin c=child;rest c 1;will 1/9;will 1/2;");
        x.person(0, -1, -1, 0);
        x.person(0, -1, 0, 10);
        x.person(0, -1, -1, 10);
        x.person(0, -1, -1, 70);
        x.wealth(0, 120);
        x.leaves(0, 3, 1, 1);
        x.leaves(0, 2, 1, 4);
        x.leaves(1, 2, 1, 1);
        x.leaves(0, 1, 1, 4);
        x.would(0, 50);
        due("as told, to those who live", new long[] {x.got(1, 2), x.got(2, 2), x.got(3, 2)}, 30, 30, 0);
        due("figures", figures(x, 0, 5), 0, 1, 60, 1, 60, 1);
        x.leaves(0, 2, 1, 2);
        x.would(0, 50);
        due("lessened to the last bound", new long[] {x.got(1, 2), x.got(2, 2)}, 15, 45);
        due("figures", figures(x, 0, 5), 0, 1, 60, 1, 60, 1);
        law(x, "kin c=child;rest c 1;");
        x.would(0, 50);
        due("without a will tell the bound is 0", figures(x, 0, 5), 0, 1, 0, 1, 120, 1);
        due("none", new long[] {x.got(1, 2), x.got(1, 3), x.got(2, 2), x.got(2, 3)}, 0, 1, 0, 1);
        law(x, "will 1/1;");
        x.would(0, 50);
        due("all", figures(x, 0, 9), 0, 1, 120, 1, 0, 1, 0, 1, 1, 1);
        x.dies(0);
        x.settle(50);
        due("2 got three fourths", worth(x, 2), 90, 1);
        due("1 got a fourth", worth(x, 1), 30, 1);
        due("the crown nothing", x.outside(1, 0), 0);
    }

    // ---- SPENT ----

    private static void spent() {
        // 1/997 and 1/991 of parts: 1/988027; with one more prime below it is too much.
        EstateOffice x = lawful("kin c=child;kin w=mate;kin m=mother;fixed c 1/997;fixed w 1/991;");
        x.person(0, -1, -1, 0);
        x.person(0, -1, 0, 1);
        x.person(0, -1, -1, 1);
        x.person(0, -1, -1, 1);
        x.mates(0, 2, 1, -1);
        x.wealth(0, 4);
        due("a lower part of 988027", x.would(0, 9), 0);
        due("sum", figures(x, 6, 7), 1988, 988027);
        due("crown", figures(x, 8, 9), 986039, 988027);
        x.would(3, 9);
        law(x, "kin c=child;kin w=mate;kin m=mother;fixed c 1/997;fixed w 1/991 each;fixed m 1/2;");
        due("m has no heads", x.would(0, 9), 0);
        x.would(3, 9);
        law(x, "kin c=child;kin w=mate;kin m=mate.mate.child;fixed c 1/997;fixed w 1/991;kin z=child.father.child;");
        x.person(0, -1, 0, 2);
        due("half of a 997th is no matter", x.would(0, 9), 0);
        x.would(3, 9);
        law(x, "kin c=child m;kin w=mate;kin d=child f;fixed c 1/997;fixed w 1/991;fixed d 1/2;");
        x.person(1, -1, 0, 2);
        due("a lower part of 1976054", x.would(0, 9), -2);
        due("the one at hand stays", x.estate(10), 3);
        x.dies(0);
        x.dies(3);
        due("spent", x.settle(9), -2);
        due("nothing happens", new long[] {x.count(6), x.count(7), x.count(8), x.count(9), x.told(0, 6), x.told(0, 4)},
            2, 0, 0, 0, 4, -1);
        due("not even for the other", x.open(3), false);
        law(x, "");
        due("by another law it is settled", x.settle(9), 2);
    }

    private static void spentOnTheWay() {
        // 1/2 * 999/1000 * ... : a wealth's lower part grows from death to death till it is too much.
        EstateOffice x = lawful("kin c=child;fixed c 1/100;");
        x.person(0, -1, -1, 0);
        x.person(0, -1, 0, 1);
        x.person(0, -1, 1, 2);
        x.person(0, -1, 2, 3);
        x.person(0, -1, 3, 4);
        x.person(0, -1, 4, 5);
        x.wealth(0, 1);
        for (int p = 0; p < 3; p++) {
            x.dies(p);
            due("settle " + p, x.settle(10), 1);
        }
        due("a millionth", worth(x, 3), 1, 1000000);
        due("would be less", x.would(3, 10), -2);
        x.dies(3);
        due("settle", x.settle(10), -2);
        x.wealth(3, 1);
        due("settle", x.settle(10), 1);
        // l / L is made although the BOUND is 0 and nothing comes of it.
        EstateOffice y = new EstateOffice();
        y.person(0, -1, -1, 0);
        y.person(0, -1, -1, 0);
        y.leaves(0, 1, 1, 997);
        y.leaves(0, 1, 1, 991);
        due("L is 1988/988027", y.would(0, 1), 0);
        y.leaves(0, 1, 1, 3);
        due("L would be too much", y.would(0, 1), -2);
        // The sum is made in the order told: 1/997 + 1/991 + 1/3 on the way is too much though it ends at less.
        EstateOffice z = lawful("will 1/1;");
        z.person(0, -1, -1, 0);
        z.person(0, -1, -1, 0);
        z.leaves(0, 1, 1, 997);
        z.leaves(0, 1, 1, 991);
        z.leaves(0, 1, 1, 2);
        due("on the way", z.would(0, 1), -2);
        // P / S: S is 1972078/988027, P / S would have 1972078 below.
        x = family("fixed c 1/2;fixed d 1/2;");
        due("would", x.would(2, 60), 0);
        law(x, "kin fa=father;kin mo=mother;fixed fa 995/997;fixed mo 989/991;");
        due("a lessened P", x.would(2, 60), -2);
        due("stays", x.estate(6), 1);
        EstateOffice u = lawful("will 1/1;");
        u.person(0, -1, -1, 0);
        u.person(0, -1, -1, 0);
        u.leaves(0, 1, 1, 2);
        u.leaves(0, 1, 1, 2);
        due("two halves", u.would(0, 1), 0);
    }

    /** Ten leave 1000000 to person 13, who has 1; then 10 to 12 leave it v / 999999 one to the other. */
    private static EstateOffice rich(int v) {
        EstateOffice x = lawful("will 1/1;");
        for (int p = 0; p < 14; p++) {
            x.person(0, -1, -1, 0);
        }
        for (int p = 0; p < 10; p++) {
            x.wealth(p, 100000);
            x.leaves(p, 13, 1, 1);
            x.dies(p);
        }
        x.wealth(13, 1);
        x.wealth(10, v);
        due("ten estates", x.settle(1), 10);
        due("wealth", worth(x, 13), 1000001, 1);
        x.leaves(10, 11, 1, 999);
        x.leaves(11, 12, 1, 77);
        x.leaves(12, 13, 1, 13);
        x.dies(10);
        due("the 11th", x.settle(2), 1);
        x.dies(11);
        due("the 12th", x.settle(2), 1);
        due("wealth", worth(x, 12), v, 76923);
        x.dies(12);
        return x;
    }

    private static void spentAtTheBounds() {
        EstateOffice x = rich(1);
        due("an upper part of 10^12", x.settle(2), 1);
        due("wealth", worth(x, 13), 1000000000000L, 999999);
        x.person(0, -1, -1, 0);
        x.leaves(13, 14, 1, 1);
        x.dies(13);
        due("all of it", x.settle(2), 1);
        due("wealth", worth(x, 14), 1000000000000L, 999999);
        x = rich(2);
        due("an upper part of 10^12 + 1", x.settle(2), -2);
        due("would of another", x.would(13, 2), 0);
        due("would so", x.would(12, 2), -2);
        due("the other is at hand", x.estate(10), 13);
        due("wealth stays", worth(x, 13), 1000001, 1);
        due("and lives", x.told(12, 4), -1);
    }

    /** Persons 3, 4, 5 have 1/997, 1/991, 1/3 in the end. */
    private static EstateOffice thirds() {
        EstateOffice x = lawful("will 1/1;");
        int[] below = {997, 991, 3};
        for (int p = 0; p < 7; p++) {
            x.person(0, -1, -1, 0);
        }
        for (int p = 0; p < 3; p++) {
            x.wealth(p, 1);
            x.leaves(p, 3 + p, 1, below[p]);
            x.dies(p);
        }
        // The crown would have too much already: it gets all but 1/997 of 1, and so on.
        due("spent by the crown", x.settle(1), -2);
        for (int p = 0; p < 3; p++) {
            x.leaves(p, 6, below[p] - 1, below[p]);
        }
        due("spent by the wealth of one", x.settle(1), -2);
        return x;
    }

    private static void spentByDebts() {
        thirds();
        EstateOffice x = lawful("will 1/1;");
        int[] below = {997, 991, 3};
        for (int p = 0; p < 9; p++) {
            x.person(0, -1, -1, 0);
        }
        for (int p = 0; p < 3; p++) {
            x.wealth(p, 1);
            x.leaves(p, 3 + p, 1, below[p]);
            x.leaves(p, 6 + p, below[p] - 1, below[p]);
            x.dies(p);
        }
        due("each to another", x.settle(1), 3);
        due("the third", worth(x, 8), 2, 3);
        x.owes(3, 5, 1);
        x.owes(4, 5, 1);
        x.dies(3);
        due("would", x.would(4, 1), 0);
        due("paid as far as it goes", new long[] {x.got(5, 4), x.got(5, 5)}, 1, 991);
        due("settled", x.settle(1), 1);
        due("1/3 and 1/997", worth(x, 5), 1000, 2991);
        due("and 1/991 is too much", x.would(4, 1), -2);
        due("stays", x.estate(10), 4);
        x.undo();
        x.owes(5, -1, 1);
        x.owes(6, -1, 1);
        x.owes(7, -1, 1);
        x.dies(5);
        x.dies(7);
        due("estates of 3, 5, 7", x.settle(1), 3);
        due("strangers", new long[] {x.outside(0, 0), x.outside(0, 1)}, 3961, 2973);
        due("what is 996/997 more is too much", x.would(6, 1), -2);
    }

    // ---- 21 ----

    private static void told() {
        EstateOffice x = new EstateOffice();
        x.person(1, -1, -1, 7);
        x.person(0, -1, -1, 8);
        x.person(0, 0, 1, 9);
        x.wealth(2, 12);
        long[] all = new long[10];
        for (int i = 0; i < 10; i++) {
            all[i] = x.told(2, i - 1);
        }
        due("told", all, -1, 0, 0, 1, 9, -1, 0, 12, 1, -1);
        due("no parents", new long[] {x.told(0, 0), x.told(0, 1), x.told(0, 2)}, 1, -1, -1);
        due("no such", x.told(3, 0), -1);
        due("no such", x.told(-1, 0), -1);
        due("no such", x.told(30, 0), -1);
        x.dies(2);
        due("listed", x.told(2, 5), 1);
        x.settle(11);
        due("died", new long[] {x.told(2, 4), x.told(2, 5), x.told(2, 6), x.told(2, 7)}, 11, 0, 0, 1);
    }

    // ---- 22 ----

    private static void outside() {
        EstateOffice x = lawful("kin c=child;fixed c 1/3;");
        x.person(0, -1, -1, 7);
        x.person(0, -1, 0, 8);
        x.wealth(0, 100);
        x.owes(0, -1, 20);
        x.owes(0, -1, 3);
        x.dies(0);
        x.settle(9);
        due("so far", new long[] {x.outside(0, 0), x.outside(0, 1), x.outside(1, 0), x.outside(1, 1)}, 23, 1, 154, 3);
        x.dies(1);
        x.settle(9);
        due("all", new long[] {x.outside(0, 0), x.outside(1, 0), x.outside(1, 1)}, 23, 77, 1);
        due("who 2", x.outside(2, 0), -1);
        due("who -1", x.outside(-1, 0), -1);
        due("what 2", x.outside(0, 2), -1);
        due("what -1", x.outside(1, -1), -1);
        x.undo();
        x.undo();
        due("taken back", new long[] {x.outside(0, 0), x.outside(0, 1), x.outside(1, 0), x.outside(1, 1)}, 0, 1, 0, 1);
        x.would(0, 9);
        due("a would pays nobody", x.outside(0, 0), 0);
    }

    // ---- 23 ----

    private static void count() {
        EstateOffice x = lawful("kin c=child;fixed c 1/3;rest c 1;steps c;");
        x.person(0, -1, -1, 7);
        x.person(0, -1, 0, 8);
        x.person(0, -1, 0, 8);
        x.mates(0, 1, 2, 3);
        x.mates(0, 1, 2, 3);
        x.owes(0, 1, 5);
        x.leaves(0, 1, 1, 5);
        x.leaves(0, 1, 1, 5);
        x.leaves(0, 1, 1, 5);
        x.dies(0);
        x.dies(1);
        x.settle(99);
        x.dies(2);
        x.feed(0, 0, 0, 0, 0);
        long[] all = new long[13];
        for (int i = 0; i < 13; i++) {
            all[i] = x.count(i - 1);
        }
        due("count", all, -1, 3, 2, 1, 3, 1, 2, 1, 2, 1, 99, 20, -1);
    }
}
