/**
 * The edges that II. THE LAW names: of TOKENS, of each FAULT and its place, the case just inside and
 * the one just outside; and that a text with a FAULT changes nothing.
 */
public final class TextEdgesTest {
    private static final String[] WORDS = {"kin", "fixed", "each", "if", "not", "bars", "rest", "back", "steps", "will",
        "child", "mother", "father", "mate"};
    private static final String NAMED = "kin a=child;kin m=child;kin f=child;";
    private static final String STEP_STARTS = "child mother father mate NAME m f";
    private static final String EIGHT = "child m.mother.father f.mate.a.m m.f.child";

    public static void main(String[] args) {
        bytesOfTokens();
        blanks();
        lengthsOfTokens();
        namesThatDiffer();
        longestTokens();
        wordsAreNoNames();
        namesOfEndsAreNames();
        syntaxTable();
        endOfTheText();
        kinsOfALaw();
        rulesOfALaw();
        stepsOfAPath();
        namesOfARule();
        tokensOfALaw();
        leastOfOnePlace();
        firstByPlace();
        syntaxAndRoomGoAhead();
        toldTwice();
        toldAhead();
        wrongParts();
        wrongWeightsAndBars();
        faultsOfMeaningByPlace();
        faultsChangeNothing();
        elseItIsTheLaw();
        nothingOfOlderLaws();
        rulesAreNumbered();
        Edges.end("what the texts' edges ask");
    }

    private static void fault(String text, int fault, int place) {
        Edges.fault(text, fault, place);
    }

    private static void good(String text) {
        Edges.good(text);
    }

    private static String times(String text, int times) {
        return text.repeat(times);
    }

    // ---- TOKENS ----

    /** Of all 256 bytes, behind a whole tell: a blank, the first byte of a tell's word, or no TOKEN there. */
    private static void bytesOfTokens() {
        for (char sign = 0; sign < 256; sign++) {
            boolean blank = sign == 9 || sign == 10 || sign == 13 || sign == 32;
            fault("steps a;" + sign, blank ? 4 : 1, blank ? 6 : 8);
            boolean letter = sign >= 'a' && sign <= 'z';
            boolean digit = sign >= '0' && sign <= '9';
            // Inside a NAME: letters and digits go on, a blank ends it, '=' stands behind it.
            if (letter || digit || blank) {
                good("kin a" + sign + "=child;");
            } else {
                fault("kin a" + sign + "=child;", 1, sign == '=' ? 6 : 5);
            }
            // Inside an INT: digits go on, a blank ends it, '/' stands behind it.
            if (digit || blank) {
                good("will 1" + sign + "/29;");
            } else {
                fault("will 1" + sign + "/29;", 1, sign == '/' ? 7 : 6);
            }
        }
    }

    private static void blanks() {
        String[] tokens = {"kin", " ", "a", "=", "child", " ", "m", ".", "mate", "|", "father", ";", "fixed", " ", "a", " ",
            "1", "/", "2", "each", " ", "if", " ", "a", " ", "not", " ", "a", ";", "rest", " ", "a", " ", "1", ";"};
        for (String blank : new String[] {"", " ", "\t", "\n", "\r", " \t\r\n "}) {
            StringBuilder text = new StringBuilder(blank);
            for (String token : tokens) {
                text.append(token.equals(" ") && !blank.isEmpty() ? "" : token).append(blank);
            }
            good(text.toString());
        }
        // None is needed but between what would be one longer TOKEN.
        good("kin a=child m.mate|father;fixed a 1/2each if a not a;rest a 1;");
        good("kin a1=child;fixed a1 1/2if a1 not a1;");
        good("kin a=child;fixed a 1/2not a;");
        fault("kina=child;", 1, 0);
        fault("kin a=childm;", 4, 6);
        fault("kin a=child;fixed a1/2;", 1, 20);
        fault("kin a=child;fixed a 1/2eachif a;", 1, 23);
        fault("kin a=child;rest a1;", 1, 19);
    }

    private static void lengthsOfTokens() {
        good("kin abcdefghij=child;steps abcdefghij;");
        good("kin a123456789=child;steps a123456789;");
        fault("kin abcdefghijk=child;", 1, 4);
        fault("kin a1234567890=child;", 1, 4);
        fault("kin " + times("a", 255) + "=child;", 1, 4);
        fault("kin " + times("a", 257) + "=child;", 1, 4);
        fault("kin " + times("a", 266) + "=child;", 1, 4);
        // NAMES of ten signs that have nine in common are two.
        fault("kin abcdefghij=child;steps abcdefghik;", 4, 27);
        fault("kin abcdefghij=child;steps bbcdefghij;", 4, 27);
        fault("kin abcdefghij=child;steps abcdefghi;", 4, 27);
        fault("kin z999999999=child;steps z999999998;", 4, 27);
        fault("kin a=child;steps aa;", 4, 18);
        fault("kin a0=child;steps a;", 4, 19);
        fault("kin a=child;steps a0;", 4, 18);
        good("will 0/1;");
        good("will 00/01;");
        good("will 000/001;");
        good("will 999/999;");
        fault("will 0000/1;", 1, 5);
        fault("will 1000/1;", 1, 5);
        fault("will 1/1000;", 1, 7);
        fault("will 1/0001;", 1, 7);
        fault("will 1/" + times("0", 300) + "1;", 1, 7);
        fault("kin a=child;rest a 1000;", 1, 19);
        good("kin a=child;rest a 999;");
        // A longer word is none of the words.
        fault("kinn a=child;", 1, 0);
        fault("ki a=child;", 1, 0);
        fault("kin a=children;", 4, 6);
        fault("kin a=grandchild;", 4, 6);
        fault("kin a=grandchildr;", 1, 6);
    }

    private static void namesThatDiffer() {
        String signs = "abcdefghijklmnopqrstuvwxyz0123456789";
        for (char told : signs.toCharArray()) {
            EstateOffice x = new EstateOffice();
            for (char asked : signs.toCharArray()) {
                Edges.tape(x, "kin a" + told + "=child;steps a" + asked + ";");
                Edges.due("a" + asked + " where a" + told + " is told", x.read(), told == asked ? 0 : 4);
                Edges.tape(x, "kin b" + told + "=child;steps " + asked + ";");
                Edges.due(asked + " where b" + told + " is told", x.read(), asked > '9' ? 4 : 1);
            }
        }
        for (String told : new String[] {"a0", "a9", "dl", "z9", "zz"}) {
            for (char first = 'a'; first <= 'z'; first++) {
                EstateOffice x = new EstateOffice();
                for (char second : signs.toCharArray()) {
                    String asked = new StringBuilder().append(first).append(second).toString();
                    // No word of the language has two letters but 'if'.
                    if (!asked.equals("if")) {
                        Edges.tape(x, "kin " + told + "=child;steps " + asked + ";");
                        Edges.due(asked + " where " + told + " is told", x.read(), told.equals(asked) ? 0 : 4);
                    }
                }
            }
        }
        fault("kin abcd=child;steps abdc;", 4, 21);
        fault("kin a1=child;steps b;", 4, 19);
        fault("kin aaaaaaaaaa=child;steps aaaaaaaaa;", 4, 27);
    }

    private static void longestTokens() {
        fault("kin a=child2;", 4, 6);
        good("kin a=child;kin child2=a;");
        good("kin kin1=child;kin fixed2=kin1;kin eachh=fixed2;steps eachh;");
        // An INT has no letters: 1a is an INT and a NAME.
        fault("kin 1a=child;", 1, 4);
        fault("will 1a/2;", 1, 6);
        good("kin a=child;kin b=child;fixed a 1/2not b;");
        fault("kin a=child;back a1;", 4, 17);
        fault("kin a=child;rest a 1b 2;", 1, 20);
        // Signs are TOKENS of one byte each.
        fault("kin a==child;", 1, 6);
        fault("kin a=child||mate;", 1, 12);
        fault("kin a=child..mate;", 1, 12);
        fault("kin a=child;back a,,a;", 1, 19);
        fault("will 1//2;", 1, 7);
    }

    private static void wordsAreNoNames() {
        for (String word : WORDS) {
            fault("kin " + word + "=child;", 1, 4);
            fault("kin a=child;steps " + word + ";", 1, 18);
            fault("kin a=child;bars a " + word + ";", 1, 19);
            fault("kin a=child;rest " + word + " 1;", 1, 17);
            fault("kin a=child;back a," + word + ";", 1, 19);
            fault("kin a=child;fixed " + word + " 1/2;", 1, 18);
            fault("kin a=child;fixed a 1/2 if " + word + ";", 1, 27);
            fault("kin a=child;fixed a 1/2 not " + word + ";", 1, 28);
            good("kin " + word + "s1=child;steps " + word + "s1;");
        }
    }

    private static void namesOfEndsAreNames() {
        good("kin m=child;kin f=mate;bars m f;rest m 1,f 2;back f,m;steps m;fixed f 1/2 each if m not f;");
        fault("kin m=child;kin f=m m|m f.f;", 4, 26);
        good("kin m=child;kin f=m m|m f.m;");
        // Behind a STEP they are its end: a second one is too many.
        fault("kin m=child;kin f=m m m;", 1, 22);
        fault("kin m=child m f;", 1, 14);
        fault("kin m=m;", 4, 6);
        fault("kin a=m m;", 4, 6);
        fault("kin a=child mm;", 1, 12);
        fault("kin a=child m1;", 1, 12);
        fault("kin a=child g;", 1, 12);
        fault("kin a=child l;", 1, 12);
        EstateOffice x = Edges.lawful("kin m=child;kin a=m m;kin b=m f;kin c=child.m;");
        x.person(0, -1, -1, 0);
        x.person(0, -1, 0, 1);
        x.person(1, -1, 0, 1);
        x.person(1, -1, 1, 2);
        Edges.due("of SEX 0", Edges.kinOf(x, 1, 0, 9), 1);
        Edges.due("of SEX 1", Edges.kinOf(x, 2, 0, 9), 2);
        Edges.due("behind a sign it is a NAME", Edges.kinOf(x, 3, 0, 9), 3);
    }

    // ---- 1 SYNTAX ----

    /** Behind each of these beginnings, the TOKENS with which a text goes on; all others are SYNTAX. */
    private static void syntaxTable() {
        String tells = "kin fixed bars rest back steps will END";
        goesOn("", tells);
        goesOn("kin", "NAME m f");
        goesOn("kin b", "=");
        goesOn("kin b =", STEP_STARTS);
        for (String step : STEP_STARTS.replace("NAME", "a").split(" ")) {
            goesOn("kin b = " + step, "m f . | ;");
            goesOn("kin b = " + step + " m", ". | ;");
            goesOn("kin b = " + step + " f", ". | ;");
            goesOn("kin b = mate | " + step, "m f . | ;");
            goesOn("kin b = mate . " + step + " f", ". | ;");
        }
        goesOn("kin b = child .", STEP_STARTS);
        goesOn("kin b = child m |", STEP_STARTS);
        goesOn("kin b = child ;", tells);
        goesOn("fixed", "NAME m f");
        goesOn("will", "INT");
        for (String part : new String[] {"fixed a ", "will "}) {
            goesOn(part, "INT");
            goesOn(part + "1", "/");
            goesOn(part + "1 /", "INT");
        }
        goesOn("fixed a 1 / 2", "each if not ;");
        goesOn("fixed a 1 / 2 each", "if not ;");
        goesOn("fixed a 1 / 2 if", "NAME m f");
        goesOn("fixed a 1 / 2 each if a", "not ;");
        goesOn("fixed a 1 / 2 not", "NAME m f");
        goesOn("fixed a 1 / 2 if a not a", ";");
        goesOn("fixed a 1 / 2 not a ;", tells);
        goesOn("will 1 / 2", ";");
        goesOn("will 1 / 2 ;", tells);
        goesOn("bars", "NAME m f");
        goesOn("bars a", "NAME m f");
        goesOn("bars a m", ";");
        goesOn("bars a m ;", tells);
        goesOn("rest", "NAME m f");
        goesOn("rest a", "INT");
        goesOn("rest a 1", ", ;");
        goesOn("rest a 1 ,", "NAME m f");
        goesOn("rest a 1 , m", "INT");
        goesOn("rest a 1 , m 2", ", ;");
        goesOn("rest a 1 ;", tells);
        goesOn("back", "NAME m f");
        goesOn("back a", ", ;");
        goesOn("back a ,", "NAME m f");
        goesOn("back a , m", ", ;");
        goesOn("back a ;", tells);
        goesOn("steps", "NAME m f");
        goesOn("steps a", ";");
        goesOn("steps a ;", tells);
    }

    private static void goesOn(String beginning, String with) {
        String all = " " + with + " ";
        String text = NAMED + beginning + " ";
        for (String word : WORDS) {
            next(text, word, all.contains(" " + word + " "));
        }
        next(text, "zz", all.contains(" NAME "));
        next(text, "a", all.contains(" NAME "));
        next(text, "m", all.contains(" m "));
        next(text, "f", all.contains(" f "));
        next(text, "7", all.contains(" INT "));
        for (String sign : new String[] {"=", "|", ".", ",", ";", "/"}) {
            next(text, sign, all.contains(" " + sign + " "));
        }
        for (String none : new String[] {"#", "A", "abcdefghijk", "1234", "\u00e9", "-", ":", "\u0000"}) {
            next(text, none, false);
        }
        EstateOffice x = new EstateOffice();
        Edges.tape(x, text);
        boolean ended = x.read() != 1;
        Edges.due("the end behind '" + beginning + "'", ended, all.contains(" END "));
        Edges.due("its place", x.place() == text.length(), !ended);
    }

    private static void next(String text, String token, boolean allowed) {
        EstateOffice x = new EstateOffice();
        Edges.tape(x, text + token);
        int fault = x.read();
        boolean here = fault == 1 && x.place() == text.length();
        Edges.due("'" + text + token + "' goes on", !here, allowed);
        // A TOKEN that is allowed leaves SYNTAX for the end, if the tell is not whole with it.
        Edges.due("'" + text + token + "' is of SYNTAX", fault == 1, !allowed || !token.equals(";"));
        if (allowed && fault == 1) {
            Edges.due("the end of '" + text + token + "'", x.place(), text.length() + token.length());
        }
    }

    private static void endOfTheText() {
        good("");
        fault("k", 1, 0);
        fault("kin", 1, 3);
        fault("kin ", 1, 4);
        fault("kin \n\r\t ", 1, 8);
        fault("kin a=child", 1, 11);
        fault("kin a=child ", 1, 12);
        good("kin a=child; ");
        fault("fixed zz 1/2", 1, 12);
        fault("will 1/", 1, 7);
    }

    // ---- 2 ROOM ----

    private static void kinsOfALaw() {
        String text = "";
        for (int k = 0; k < 20; k++) {
            text += "kin k" + k + "=" + (k == 0 ? "child" : "k" + (k - 1)) + ";";
        }
        good(text);
        good(text + "steps k19;back k19;");
        fault(text + "kin", 1, text.length() + 3);
        fault(text + "kin k", 2, text.length() + 4);
        fault(text + "kin k=child;", 2, text.length() + 4);
        fault(text + "kin  k0", 2, text.length() + 5);
        fault(text + "kin mate=child;", 1, text.length() + 4);
        fault(text + "kin 7", 1, text.length() + 4);
        EstateOffice x = Edges.lawful(text);
        x.person(0, -1, -1, 0);
        x.person(0, -1, 0, 1);
        Edges.due("20 KIN", x.count(4), 20);
        Edges.due("the 20th", x.kin(19, 0, 1, 0), 1);
        Edges.due("there is no 21st", x.kin(20, 0, 1, 0), -1);
    }

    private static void rulesOfALaw() {
        String[] rules = {"fixed a 1/2;", "bars a b;", "rest b 1;", "back a,b;"};
        for (int last = 0; last < 4; last++) {
            String text = "kin a=child;kin b=mate;";
            for (int r = 0; r < 29; r++) {
                text += rules[r % 4];
            }
            good(text + rules[last]);
            good(text + "steps a;will 1/2;" + rules[last] + "steps b;kin c=a;will 1/3;");
            text += rules[3 - last];
            for (int more = 0; more < 4; more++) {
                fault(text + " " + rules[more], 2, text.length() + 1);
                fault(text + " " + rules[more].substring(0, 4), more == 0 ? 1 : 2, text.length() + 1);
            }
        }
        EstateOffice x = Edges.lawful("kin a=child;" + times("fixed a 0/1;", 29) + "rest a 1;");
        x.person(0, -1, -1, 0);
        x.person(0, -1, 0, 1);
        x.would(0, 1);
        Edges.due("30 RULES", x.count(5), 30);
        Edges.due("the last one is the 29th", x.estate(12), 29);
    }

    private static void stepsOfAPath() {
        String named = "kin a=child;kin m=child;kin f=child;";
        good(named + "kin b=" + EIGHT + ";");
        good(named + "kin b=" + EIGHT + " f;");
        good(named + "kin b=" + EIGHT + "|" + EIGHT + "|" + EIGHT + " m;");
        String text = named + "kin b=" + EIGHT + " .";
        for (String step : STEP_STARTS.replace("NAME", "a zz").split(" ")) {
            fault(text + step + ";", 2, text.length());
            fault(text + " " + step + " m;", 2, text.length() + 1);
            fault(text + step, 2, text.length());
        }
        fault(text, 1, text.length());
        fault(text + ";", 1, text.length());
        fault(text + "7", 1, text.length());
        String second = named + "kin b=" + EIGHT + "|mate|" + EIGHT + ".";
        fault(second + "mate;", 2, second.length());
        // The eighth leads on, too.
        EstateOffice x = Edges.lawful("kin a=child.child.child.child.child.child.child.child;"
            + "kin b=child.child.child.child.child.child.child;");
        for (int p = 0; p < 10; p++) {
            x.person(0, -1, p - 1, p);
        }
        Edges.due("eight STEPS", Edges.kinOf(x, 0, 0, 50), 8);
        Edges.due("seven STEPS", Edges.kinOf(x, 1, 0, 50), 7);
    }

    private static void namesOfARule() {
        String kins = "";
        String back = "back a0";
        String rest = "rest a0 1";
        for (int k = 0; k < 9; k++) {
            kins += "kin a" + k + "=mate;";
            back += k == 0 || k == 8 ? "" : ",a" + k;
            rest += k == 0 || k == 8 ? "" : ",a" + k + " " + k;
        }
        good(kins + back + ";" + rest + ";" + back + ";");
        for (String list : new String[] {kins + back, kins + rest}) {
            fault(list + ",a8 1;", 2, list.length() + 1);
            fault(list + ", a0", 2, list.length() + 2);
            fault(list + ",zz", 2, list.length() + 1);
            fault(list + ",", 1, list.length() + 1);
            fault(list + ",;", 1, list.length() + 1);
            fault(list + ",7", 1, list.length() + 1);
            fault(list + ",child", 1, list.length() + 1);
            fault(list, 1, list.length());
        }
        // The eighth has its weight, and its part back.
        EstateOffice x = Edges.lawful("kin n=father;kin a=n;kin b=n;kin c=n;kin d=n;kin e=n;kin g=n;kin h=child;"
            + "rest n 9,a 9,b 9,c 9,d 9,e 9,g 9,h 7;");
        x.person(0, -1, -1, 0);
        x.person(0, -1, 0, 1);
        x.would(0, 5);
        Edges.due("all the rest", Edges.shares(x, 1), 1, 1);
        Edges.law(x, "kin n=father;kin a=n;kin b=n;kin c=n;kin d=n;kin e=n;kin g=n;kin h=child;"
            + "back n,a,b,c,d,e,g,h;fixed h 1/9;");
        x.would(0, 5);
        Edges.due("all comes back", Edges.shares(x, 1), 1, 1);
    }

    /** Whole tells of so many TOKENS: 3 a steps, 5 a will. */
    private static String tells(int tokens) {
        int wills = 0;
        while ((tokens - 5 * wills) % 3 != 0) {
            wills++;
        }
        return times("will 1/2;", wills) + times("steps a;", (tokens - 5 * wills) / 3);
    }

    private static void tokensOfALaw() {
        String kin = "kin a=child;";
        for (int ahead = 590; ahead <= 600; ahead++) {
            String text = kin + tells(ahead - 5);
            good(text);
            boolean fits = ahead + 3 <= 600;
            int token = 600 - ahead;
            fault(text + "steps a ;", fits ? 0 : 2, fits ? -1 : text.length() + (token == 0 ? 0 : token == 1 ? 6 : 8));
        }
        String full = kin + tells(595);
        good(full + " \n");
        fault(full + "steps", 2, full.length());
        fault(full + "fixed", 2, full.length());
        fault(full + ";", 1, full.length());
        fault(full + "a", 1, full.length());
        fault(full + "7", 1, full.length());
        fault(full + "abcdefghijk", 1, full.length());
        fault(full + "\u00ff", 1, full.length());
        // 600 TOKENS whose last tell is not whole: the text's end is at fault.
        String open = kin + tells(593) + "steps a";
        fault(open, 1, open.length());
        fault(open + " ", 1, open.length() + 1);
        fault(open + ";", 2, open.length());
        fault(open + "|", 1, open.length());
        // What stands behind the 601st counts no more.
        fault(full + "steps ####", 2, full.length());
        fault(full + "steps steps", 2, full.length());
    }

    private static void leastOfOnePlace() {
        // 1 and 2 at one byte: that no text goes on is less.
        String twenty = times("kin a=mate;", 0);
        for (int k = 0; k < 20; k++) {
            twenty += "kin b" + k + "=mate;";
        }
        fault(twenty + "kin abcdefghijk", 1, twenty.length() + 4);
        fault(twenty + "kin kin", 1, twenty.length() + 4);
        String path = "kin a=" + times("mate.", 8);
        fault(path + "kin", 1, path.length());
        fault(path + "m", 2, path.length());
        // 3 and 4 at one byte cannot be but behind a fault of its own: the first of them counts.
        fault("back zz,zz;", 4, 5);
        fault("rest zz 1,zz 1;", 4, 5);
        fault("rest zz 0,zz 0;", 4, 5);
        fault("bars zz zz;", 4, 5);
        // 4 and 5 at the second NAME of a bars.
        fault("kin a=child;bars a zz;", 4, 19);
        fault("kin a=child;bars zz a;", 4, 17);
    }

    private static void firstByPlace() {
        String twenty = "";
        for (int k = 0; k < 20; k++) {
            twenty += "kin b" + k + "=mate;";
        }
        String thirty = times("steps b0;", 3) + times("back b0;", 30);
        fault(twenty + thirty + "kin c=mate;back b0;!", 2, twenty.length() + thirty.length() + 4);
        fault(twenty + thirty + "back b0;kin c=mate;!", 2, twenty.length() + thirty.length());
        fault(twenty + thirty + "!;back b0;kin c=mate;", 1, twenty.length() + thirty.length());
        fault(twenty + "kin b0=" + times("mate.", 8) + "mate;", 2, twenty.length() + 4);
        fault("kin a=" + times("mate.", 8) + "mate;!", 2, 46);
        fault("kin a=" + times("mate.", 7) + "mate!.mate;", 1, 45);
        fault("! kin", 1, 0);
        fault("steps ! !", 1, 6);
    }

    private static void syntaxAndRoomGoAhead() {
        fault("steps zz;will 3/2;kin a=child;kin a=child;bars a a;rest a 0;back a,a", 1, 68);
        fault("steps zz;will 3/2;kin a=child;kin a=child;bars a a;rest a 0;back a,a;", 4, 6);
        fault("kin a=child;kin a=child;kin b=" + times("mate.", 8) + "mate;", 2, 70);
        fault("kin a=child;kin a=child;kin b=" + times("mate.", 7) + "mate;", 3, 16);
    }

    // ---- 3 TWICE, 4 NAME, 5 WRONG ----

    private static void toldTwice() {
        fault("kin a=child;kin a=child;", 3, 16);
        fault("kin a=child;kin b=a;kin a=zz;", 3, 24);
        good("kin a=child;kin b=a;");
        good("kin a=child;kin aa=a;kin a1=aa;");
        fault("kin m=child;kin m=child;", 3, 16);
        for (String list : new String[] {"back a", "rest a 1"}) {
            String one = list.equals("back a") ? "" : " 1";
            String text = "kin a=child;kin b=a;" + list;
            good(text + ",b" + one + ";" + list + ",b" + one + ";");
            fault(text + ",a" + one + ";", 3, text.length() + 1);
            fault(text + ",b" + one + ",a" + one + ";", 3, text.length() + 3 + one.length());
            fault(text + ",b" + one + ",b" + one + ";", 3, text.length() + 3 + one.length());
            fault(text + ",b" + one + ", a" + one + ",b" + one + ";", 3, text.length() + 4 + one.length());
        }
        good("kin a=child;steps a;steps a;will 1/2;will 1/2;fixed a 1/2;fixed a 1/2 if a not a;");
        good("kin a=child;kin b=a;bars a b;bars a b;bars b a;");
    }

    private static void toldAhead() {
        fault("kin a=a;", 4, 6);
        fault("kin a=child.a;", 4, 12);
        fault("kin a=child|mate.a m;", 4, 17);
        good("kin a=child;kin b=a;");
        fault("kin b=a;kin a=child;", 4, 6);
        String[] others = {"fixed # 1/2;", "fixed a 1/2 if #;", "fixed a 1/2 each not #;", "bars # a;", "bars a #;",
            "rest # 1;", "rest a 1,# 1;", "back #;", "back a,#;", "steps #;", "kin c=#;", "kin c=mate.#;", "kin c=mate|#;"};
        for (String tell : others) {
            String text = "kin a=child;" + tell;
            int place = text.indexOf('#');
            fault(text.replace('#', 'b'), 4, place);
            fault(text.replace('#', 'b') + "kin b=child;", 4, place);
            good("kin b=child;" + text.replace('#', 'b'));
            good("kin m=child;" + text.replace('#', 'm'));
        }
    }

    private static void wrongParts() {
        for (String tell : new String[] {"will ", "kin a=child;fixed a "}) {
            good(tell + "0/1;");
            good(tell + "1/1;");
            good(tell + "0/999;");
            good(tell + "998/999;");
            good(tell + "999/999;");
            fault(tell + "0/0;", 5, tell.length() + 2);
            fault(tell + "1/0;", 5, tell.length() + 2);
            fault(tell + "1 / 000;", 5, tell.length() + 4);
            fault(tell + "2/1;", 5, tell.length() + 2);
            fault(tell + "999/998;", 5, tell.length() + 4);
            fault(tell + "010/9;", 5, tell.length() + 4);
            good(tell + "9/010;");
        }
    }

    private static void wrongWeightsAndBars() {
        good("kin a=child;kin b=a;rest a 1,b 999;");
        fault("kin a=child;kin b=a;rest a 0,b 1;", 5, 27);
        fault("kin a=child;kin b=a;rest a 1,b 000;", 5, 31);
        good("kin a=child;kin b=a;rest a 001,b 010;");
        fault("kin a=child;bars a a;", 5, 19);
        fault("kin m=child;bars m  m;", 5, 20);
        good("kin a=child;kin b=child;bars a b;");
    }

    private static void faultsOfMeaningByPlace() {
        fault("kin a=child;rest a 0,a 0;", 5, 19);
        fault("kin a=child;rest a 1,a 0;", 3, 21);
        fault("kin a=child;rest a 1,zz 0;", 4, 21);
        fault("kin a=child;fixed zz 1/0 if yy;", 4, 18);
        fault("kin a=child;fixed a 1/0 if yy;", 5, 22);
        fault("kin a=child;fixed a 1/1 if yy not zz;", 4, 27);
        fault("kin a=child;kin a=zz;bars a a;", 3, 16);
        fault("kin a=zz;kin a=child;", 4, 6);
        fault("will 1/0;steps zz;", 5, 7);
        fault("steps zz;will 1/0;", 4, 6);
        // A KIN with a fault in its PATHS is told all the same.
        fault("kin a=zz;steps a;steps a;", 4, 6);
    }

    // ---- what a text changes ----

    private static void office(EstateOffice x) {
        Edges.law(x, "kin c=child;kin m=mate;kin b=father.child;bars c b;fixed m 1/4 each if c;rest c 2,m 1;steps c;will 1/2;");
        x.person(0, -1, -1, 10);
        x.person(0, -1, 0, 30);
        x.person(1, -1, 0, 31);
        x.person(1, -1, 1, 60);
        x.person(1, -1, -1, 30);
        x.mates(1, 4, 40, -1);
        x.wealth(1, 700);
        x.leaves(1, 2, 1, 3);
        x.owes(1, -1, 30);
        x.dies(1);
        x.would(1, 70);
    }

    private static void faultsChangeNothing() {
        String[] faulty = {"will 1/1;kin z=mate;rest z 1;!", "will 1/1;kin z=mate;steps z;kin y=z",
            "kin z=mate;" + times("fixed z 1/2;", 31), "kin z=mate;will 1/1;kin z=child;rest z 1;",
            "kin z=mate;rest z 1;steps y;will 1/1;", "kin z=mate;rest z 1;will 2/1;", "kin z=mate;steps z;will 1/3;rest z 0;",
            "kin z=mate;kin y=child;bars y y;"};
        int[] faults = {1, 1, 2, 3, 4, 5, 5, 5};
        for (int i = 0; i < faulty.length; i++) {
            Edges.noLaw(TextEdgesTest::office, faulty[i], faults[i]);
        }
    }

    private static void elseItIsTheLaw() {
        EstateOffice x = new EstateOffice();
        office(x);
        Edges.due("the law's KIN and RULES", new long[] {x.count(4), x.count(5)}, 3, 3);
        Edges.due("by the law", new long[] {x.would(1, 70), x.estate(2), x.estate(3), x.estate(12)}, 0, 670, 3, 2);
        Edges.law(x, "kin c=child;kin d=c;back c;fixed c 1/2;");
        Edges.due("only the new one's", new long[] {x.count(4), x.count(5)}, 2, 2);
        Edges.due("the BOUND is 0 without a will, the steps are none", new long[] {x.would(1, 70), x.estate(2),
            x.estate(3), x.estate(12)}, 0, 0, 1, 0);
        x.read();
        Edges.due("an empty text is an empty law", new long[] {x.count(4), x.count(5), x.kin(0, 0, 50, 0)}, 0, 0, -1);
        Edges.due("all is the crown's", new long[] {x.would(1, 70), x.estate(8), x.estate(9), x.why(3)}, 0, 1, 1, 0);
        // The last will counts, be it less or more.
        Edges.law(x, "will 1/1;will 1/4;");
        x.would(1, 70);
        Edges.due("a fourth", Edges.figures(x, 2, 3), 335, 2);
        Edges.law(x, "will 1/4;will 0/4;will 1/1;");
        x.would(1, 70);
        Edges.due("a third, as told", Edges.figures(x, 2, 3), 670, 3);
        Edges.law(x, "will 1/4;will 0/4;");
        x.would(1, 70);
        Edges.due("none", Edges.figures(x, 2, 3), 0, 1);
    }

    private static void nothingOfOlderLaws() {
        // Neither of the law of just before nor of the one ahead of that.
        String full = "kin a=mate;kin c=child;kin d=child f;bars d c;fixed c 1/2 each if c not a;steps c;steps a;rest c 9,d 7;"
            + "back d;will 1/1;";
        EstateOffice x = new EstateOffice();
        x.person(0, -1, -1, 0);
        x.person(0, -1, 0, 1);
        x.person(1, -1, 1, 2);
        x.wealth(0, 12);
        x.leaves(0, 2, 1, 3);
        x.dies(1);
        x.settle(5);
        for (int between = 0; between < 3; between++) {
            Edges.law(x, full);
            x.would(0, 5);
            Edges.due("the full law", new long[] {x.estate(2), x.why(1), x.estate(6)}, 4, 2, 1);
            for (int i = 0; i < between; i++) {
                Edges.law(x, i == 0 ? "" : "kin z=father;");
            }
            Edges.law(x, "kin e=child.child;kin c=child;rest c 1;");
            x.would(0, 5);
            Edges.due("no will, no steps, no fixed", new long[] {x.estate(2), x.estate(4), x.why(1), x.why(2), x.estate(6),
                x.estate(8), x.estate(12)}, 0, 12, 0, 4, 0, 1, -1);
            Edges.due("its own KIN", new long[] {x.kin(0, 0, 5, 0), x.kin(1, 0, 5, 0), x.kin(2, 0, 5, 0)}, 2, 1, -1);
            Edges.law(x, "kin c=child.child;fixed c 1/4;");
            x.would(0, 5);
            Edges.due("not each, no if, no not", new long[] {x.estate(6), x.estate(7), x.why(2), x.estate(8)}, 1, 4, 2, 3);
        }
    }

    private static void rulesAreNumbered() {
        EstateOffice x = Edges.lawful("will 1/2;kin p=father;kin c=child;steps c;rest p 1;steps p;kin s=father.child;bars p s;"
            + "will 1/3;fixed c 1/2;kin k=s;back c;");
        x.person(0, -1, -1, 0);
        x.person(0, -1, 0, 1);
        x.person(0, -1, 0, 1);
        x.person(0, -1, 1, 2);
        x.would(1, 5);
        Edges.due("rest is 0, bars 1, fixed 2", new long[] {x.rule(0), x.rule(2), x.rule(3), x.estate(12)}, 0, 1, 2, 0);
        Edges.due("four RULES", x.count(5), 4);
        x.dies(0);
        x.settle(6);
        x.would(1, 6);
        Edges.due("its father has a line by 2", new long[] {x.why(0), x.rule(0), x.why(2), x.rule(2)}, 3, 0, 1, 1);
        x.dies(2);
        x.settle(6);
        x.would(1, 6);
        Edges.due("a BARRED one that is no HEAD", new long[] {x.why(0), x.why(2), x.estate(12), x.why(3)}, 3, 0, 0, 2);
    }
}
