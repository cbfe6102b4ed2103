/**
 * The edges that the document's sentences name: least and most, empty and full, just enough and
 * just too little, numbers that wrap. Answers are reckoned by hand. RefusalTest has the refusals.
 */
public final class EdgeTest {
    private static final int NONE = -9;
    /** All who speak say words of one kind; the jar has water for all of them. */
    private static final String FIVE = "j99;l0;pw1011;pw1011;pw1011;pw1011;pw1011";
    /** As large as a council can be. */
    private static final String LARGEST = "j99;l9;pw6099w5999w0199;tw6099w5999w0199;ow6099w5999w0199"
            + ";pw6099w5999w0199;tw6099w5999w0199";
    /** The OLD one says nothing, the other one his second word: water 10, 10. */
    private static final String SECOND = "j10;l0;ow0619;pw0111w0621";

    private final Checks checks = new Checks("EdgeTest");

    public static void main(String[] args) {
        EdgeTest test = new EdgeTest();
        test.texts();
        test.days();
        test.forHimself();
        test.together();
        test.thanks();
        test.orders();
        test.dry();
        test.theLog();
        test.laws();
        test.shares();
        test.sheets();
        test.parts();
        test.faults();
        test.checks.finish();
    }

    private void due(String what, long got, long want) {
        checks.due(what, got, want);
    }

    // ---- 1 texts

    private void texts() {
        numbers();
        ofSpeakersAndWords();
        twoToFiveSpeakers();
        oneToThreeWords();
        codesThatAreLeftOut();
        lanes();
        allAnew();
    }

    private void text(String text, int want) {
        due("council of " + text, Checks.council(new JarCouncil(), text), want);
    }

    /** j and two digits 01 .. 99; ; l and a digit; LENGTH 01 .. 60; OWN and OTHERS a digit. */
    private void numbers() {
        text("j00;l0;pw0100;pw0100", -101);
        text("j01;l0;pw0100;pw0100", 2);
        text("j99;l9;pw6099;pw6099", 2);
        text("j20;l0;pw0000;pw0100", -109);
        text("j20;l0;pw6100;pw0100", -109);
        text("j20;l0;pw0100;pw0000", -116);
        text("j20;l0;pw0100;pw6100", -116);
        text("j20;l0;pw7000;pw0100", -109);
        text("j20;l0;pw9999;pw0100", -109);
        for (int jar = 1; jar <= 99; jar++) {
            String two = (jar < 10 ? "0" : "") + jar;
            JarCouncil x = Checks.of("j" + two + ";l" + jar % 10 + ";pw0100;pw0100");
            due("2 the jar", x.many(1), jar);
            due("2 the leak", x.many(2), jar % 10);
            int length = Checks.council(x, "j99;l0;pw" + two + "00;pw0100");
            due("2 a length of " + two, length, jar <= 60 ? 2 : -109);
            due("4 a length of " + two, x.ofWord(0, 0, 0), jar <= 60 ? jar : 1);
        }
    }

    private void ofSpeakersAndWords() {
        JarCouncil x = Checks.of(LARGEST);
        int[] kinds = {0, 1, 2, 0, 1};
        int[] lengths = {60, 59, 1};
        for (int k = 0; k < 5; k++) {
            due("3 kind", x.ofSpeaker(k, 0), kinds[k]);
            due("3 words", x.ofSpeaker(k, 1), 3);
            due("3 place", x.ofSpeaker(k, 2), k);
            for (int q = 0; q < 3; q++) {
                due("4 length", x.ofWord(k, q, 0), lengths[q]);
                due("4 own", x.ofWord(k, q, 1), 9);
                due("4 others", x.ofWord(k, q, 2), 9);
            }
        }
        due("3 speaker 5 of five", x.ofSpeaker(5, 0), -1);
        due("4 word 3 of three", x.ofWord(4, 3, 0), -1);
        x = Checks.of("j20;l0;pw0109;tw0190");
        due("4 own 0", x.ofWord(0, 0, 1), 0);
        due("4 others 9", x.ofWord(0, 0, 2), 9);
        due("4 own 9", x.ofWord(1, 0, 1), 9);
        due("4 others 0", x.ofWord(1, 0, 2), 0);
    }

    private void twoToFiveSpeakers() {
        text("j20;l0", -106);
        text("j20;l0;pw0100", -113);
        text("j20;l0;pw0100;pw0100", 2);
        text("j20;l0;pw0100;pw0100;pw0100", 3);
        text("j20;l0;pw0100;pw0100;pw0100;pw0100", 4);
        text("j20;l0;pw0100;pw0100;pw0100;pw0100;pw0100", 5);
        text("j20;l0;pw0100;pw0100;pw0100;pw0100;pw0100;", -141);
        text("j20;l0;pw0100;pw0100;pw0100;pw0100;pw0100;p", -141);
        text("j20;l0;pw0100;pw0100;pw0100;pw0100;pw0100x", -141);
        text("j20;l0;pw0100w0100w0100;pw0100;pw0100;pw0100;pw0100;pw0100", -151);
        text("j20;l0;pw0100;pw0100;", -121);
    }

    private void oneToThreeWords() {
        text("j20;l0;p;pw0100", -108);
        text("j20;l0;pw0100;p", -115);
        text("j20;l0;pw0100;pw0100w0100", 2);
        text("j20;l0;pw0100;pw0100w0100w0100", 2);
        text("j20;l0;pw0100;pw0100w0100w0100w", -130);
        text("j20;l0;pw0100;pw0100w0100w0100w0100", -130);
        text("j20;l0;pw0100w0100w0100w0100;pw0100", -123);
        text("j20;l0;pw0100;pw0100w", -121);
        text("j20;l0;pw0100;pw0100w01", -123);
        text("j20;l0;pw0100;pw0100w010", -124);
    }

    /** Nothing that has gone wrong once goes on as if it were there. */
    private void codesThatAreLeftOut() {
        text(";pw0100;pw0100", -100);
        text("20;l0;pw0100;pw0100", -100);
        text("j;l0;pw0100;pw0100", -101);
        text("j2;l0;pw0100;pw0100", -102);
        text("j20l0;pw0100;pw0100", -103);
        text("j20;0;pw0100;pw0100", -104);
        text("j20;l;pw0100;pw0100", -105);
        text("j20;l0pw0100;pw0100", -106);
        text("j20;l0;w0100;pw0100", -107);
        text("j20;l0;p0100;pw0100", -108);
        text("j20;l0;pw;pw0100", -109);
        text("j20;l0;pw0;pw0100", -110);
        text("j20;l0;pw01;pw0100", -111);
        text("j20;l0;pw010;pw0100", -112);
        text("j20;l0;pw0100pw0100", -113);
        text("j20;l0;pw0100;pw0100 ", -120);
        text("j20;l0;Pw0100;pw0100", -107);
        text("j20;l/;pw0100;pw0100", -105);
        text("j20;l:;pw0100;pw0100", -105);
        text("j20;l10;pw0100;pw0100", -106);
    }

    private void lanes() {
        for (int lane = 0; lane < 3; lane++) {
            JarCouncil x = new JarCouncil();
            fill(x, 0, lane, 0, LARGEST);
            due("2 by lane " + lane, x.council(0, lane, 0, LARGEST.length()), 5);
            int from = 100 - LARGEST.length();
            fill(x, 1, lane, from, LARGEST);
            due("2 to the sheet's end", x.council(1, lane, from, LARGEST.length()), 5);
            due("2 all that stands there", x.council(1, lane, 0, 100), -100);
            due("2 codes behind it", x.council(0, lane, 0, 100), -100 - LARGEST.length());
            x.put(0, 5, -48);
            due("2 a code below 0", x.council(0, lane, 0, LARGEST.length()), -105);
        }
        codesOfWideCells();
    }

    /** A code is the whole cell: its last eight or sixteen bits alone are none. */
    private void codesOfWideCells() {
        String text = "j20;l1;pw0553;tw0592w1099;ow0199";
        JarCouncil x = new JarCouncil();
        fill(x, 0, 2, 0, text);
        fill(x, 1, 1, 0, text);
        for (int i = 0; i < text.length(); i++) {
            x.put(0, i, text.charAt(i) + 65536);
            due("2 an int's last sixteen bits in " + i, x.council(0, 2, 0, text.length()), -100 - i);
            x.put(0, i, text.charAt(i));
            x.put(1, i, text.charAt(i) + 256);
            due("2 a short's last eight bits in " + i, x.council(1, 1, 0, text.length()), -100 - i);
            x.put(1, i, text.charAt(i));
            if (i % 8 == 7) {
                x = new JarCouncil();
                fill(x, 0, 2, 0, text);
                fill(x, 1, 1, 0, text);
            }
        }
        due("2 all put right", x.council(0, 2, 0, text.length()), 3);
    }

    private static void fill(JarCouncil x, int sheet, int lane, int from, String text) {
        x.sheet(sheet, lane, 100);
        for (int i = 0; i < text.length(); i++) {
            x.put(sheet, from + i, text.charAt(i));
        }
    }

    /** A TEXT that is taken makes all anew; one that is not changes nothing. */
    private void allAnew() {
        JarCouncil x = Checks.of(FIVE);
        x.law(3);
        x.swap(0, 4);
        Checks.row(x, 2, 0, 0, 0, 0, 0, 0);
        x.day(2, 2, 0, 39);
        x.call(0);
        due("2 each prefix is refused", Checks.council(x, FIVE.substring(0, 12)), -112);
        due("2 law stays", x.many(3), 3);
        due("2 order stays", x.ofSpeaker(4, 2), 0);
        due("2 log stays", x.many(5), 1);
        due("2 speakers stay", x.many(0), 5);
        due("2 the same text once more", Checks.council(x, FIVE), 5);
        due("2 law anew", x.many(3), 0);
        due("2 turns anew", x.many(4), 5);
        due("2 order anew", x.ofSpeaker(4, 2), 4);
        due("2 log anew", x.many(5), 0);
        due("2 trace stays", x.trace(), 4);
        due("2 sheets stay", x.cell(2, 5, 2), 0);
        due("2 what they say", x.says(1), 0);
        due("16 in which order", x.motion(1, 0, -1), 0);
        due("2 fewer speakers", Checks.council(x, SECOND), 2);
        due("2 what they say", x.says(1), 1);
        due("16 in which order", x.motion(1, 0, -1), NONE);
        due("2 more speakers", Checks.council(x, FIVE), 5);
        due("2 what they say", x.says(1), 0);
        due("16 in which order", x.motion(1, 0, -1), 0);
    }

    // ---- 2 days

    private void days() {
        wordsOfWhoSpeaksThen();
        justEnough();
        leaks();
        halves();
        evenParts();
        sixTurns();
    }

    /** UNKNOWN: a WORD of who speaks then: in each TURN, by ORDER, behind one who is cut off, too. */
    private void wordsOfWhoSpeaksThen() {
        eachWord("7", 0, 0, 1, 2, 3, 1, 2, 1);
        eachWord("7 in another order", 0, 2, 3, 2, 1, 1, 2, 3);
    }

    /** By LAW 3; two change places; then how many words there are in each turn. */
    private void eachWord(String what, int k, int j, int... words) {
        for (int turn = 0; turn < words.length; turn++) {
            JarCouncil x = Checks.of("j10;l0;pw6011;pw0111w0211;pw0111w0211w0311;pw0111;pw0111w0211");
            x.law(3);
            x.swap(k, j);
            Checks.row(x, 2, 0, 0, 0, 0, 0, 0);
            for (int word = -1; word <= 3; word++) {
                x.put(2, turn, word);
                boolean is = word >= 0 && word < words[turn];
                String which = what + " word " + word + " in turn " + turn;
                due(which, x.judge(2, 2, 0, 6, 9), is ? -2 : -1);
                due(which, Math.min(0, x.worthOf(2, 2, 0, 6, 4)), is ? 0 : -1);
                due(which, x.day(2, 2, 0, -1), is ? -2 : -1);
                due(which + " that is not told", x.judge(2, 2, 0, turn, 9), -2);
            }
        }
    }

    private void judged(String what, JarCouncil x, int from, int n, int heard, int cut, int water) {
        due(what + ": water", x.judge(2, 2, from, n, 2), water);
        due(what + ": heard", x.judge(2, 2, from, n, 0), heard);
        due(what + ": cut off", x.judge(2, 2, from, n, 1), cut);
        due(what + ": none is no fault", x.fault(), 0);
    }

    /** If its LENGTH is no more than WATER, it is HEARD; else WATER is 0. */
    private void justEnough() {
        JarCouncil x = Checks.of("j10;l0;pw0911w1011w1111;pw0119;ow6099");
        Checks.row(x, 2, 0, 0, NONE, 1, 0, NONE, 2, 0, NONE);
        judged("7 one less", x, 0, 1, 1, NONE, 1);
        judged("7 one less, and the last drop", x, 0, 2, 2, NONE, 0);
        judged("7 just enough", x, 3, 1, 1, NONE, 0);
        judged("7 no drop left", x, 3, 2, 1, 1, 0);
        judged("7 one more", x, 6, 1, 0, 0, 0);
        judged("7 the first who is cut off", x, 6, 2, 0, 0, 0);
        judged("7 nothing is never cut off", x, 6, 3, 0, 0, 0);
        due("8 what is cut off is worth nothing to him", x.worthOf(2, 2, 6, 1, 0), 0);
        due("8 what is cut off is worth nothing to others", x.worthOf(2, 2, 6, 2, 2), 0);
        due("8 what is heard alone", x.worthOf(2, 2, 3, 2, 1), 1);
        due("8 to an old one", x.worthOf(2, 2, 0, 2, 2), 10);
        Checks.row(x, 2, NONE, NONE, 0);
        judged("7 an old one's word, too", x, 0, 3, 0, 2, 0);
        x = Checks.of("j01;l0;pw0111;pw0111");
        Checks.row(x, 2, 0, NONE);
        judged("7 nothing in an empty jar", x, 0, 2, 1, NONE, 0);
    }

    /** WATER is less by LEAK (0 at least). */
    private void leaks() {
        JarCouncil x = Checks.of("j10;l9;pw0111;pw0111;pw0211");
        Checks.row(x, 2, NONE, NONE, NONE, 0, NONE, 0);
        judged("7 a leak less than the water", x, 0, 1, 0, NONE, 1);
        judged("7 a leak more than the water", x, 0, 2, 0, NONE, 0);
        judged("7 a leak of an empty jar", x, 0, 3, 0, NONE, 0);
        judged("7 a leak of just the water", x, 3, 1, 1, NONE, 0);
        judged("7 heard, then the leak", x, 3, 2, 1, NONE, 0);
        judged("7 no drop for the last one", x, 3, 3, 1, 2, 0);
        x = Checks.of("j10;l0;pw0111;pw0111");
        Checks.row(x, 2, NONE, NONE);
        judged("7 no leak", x, 0, 2, 0, NONE, 10);
    }

    /** By LAW 2: so, and then its half; quotients are cut. */
    private void halves() {
        JarCouncil x = Checks.of("j20;l3;pw0211;pw0211;pw0111");
        x.law(2);
        Checks.row(x, 2, NONE, NONE, NONE);
        judged("7 no day: all of it", x, 0, 0, 0, NONE, 20);
        judged("7 the leak first, then half of 17", x, 0, 1, 0, NONE, 8);
        judged("7 half of 5", x, 0, 2, 0, NONE, 2);
        judged("7 less than the leak", x, 0, 3, 0, NONE, 0);
        Checks.row(x, 2, 0, 0, 0);
        judged("7 half of 15, half of 2", x, 0, 2, 2, NONE, 1);
        judged("7 half of nothing", x, 0, 3, 3, NONE, 0);
        x = Checks.of("j01;l0;pw0111;pw0111");
        x.law(2);
        Checks.row(x, 2, NONE, 0);
        judged("7 half of one", x, 0, 2, 0, 1, 0);
    }

    /** By LAW 1 JAR by how many SPEAKERS there are, behind each TURN, too. */
    private void evenParts() {
        JarCouncil x = Checks.of("j14;l9;pw0211;pw0311;pw0211;pw0211;pw0211");
        x.law(1);
        Checks.row(x, 2, 0, 0, 0, 0, 0);
        judged("7 a fifth of 14", x, 0, 0, 0, NONE, 2);
        judged("7 no leak runs", x, 0, 1, 1, NONE, 2);
        judged("7 three of two", x, 0, 2, 1, 1, 2);
        judged("7 all others are heard", x, 0, 5, 4, 1, 2);
        due("11 a fifth of 14", x.water(4), 2);
        x = Checks.of("j04;l0;pw0111;pw0111;pw0111;pw0111;pw0111");
        x.law(1);
        Checks.row(x, 2, NONE, 0, 0, 0, 0);
        judged("7 a fifth of 4", x, 0, 1, 0, NONE, 0);
        judged("7 no drop for anybody", x, 0, 5, 0, 1, 0);
        due("10 nobody speaks", x.says(0), NONE);
        due("11 no water", x.water(0), 0);
        due("9 with the jar's water he would", x.choice(0, 4), 0);
    }

    /** By LAW 3 the one in place 0 has one more at the end. */
    private void sixTurns() {
        JarCouncil x = Checks.of(FIVE);
        Checks.row(x, 2, 0, 0, 0, 0, 0, 0, 0);
        judged("7 five turns", x, 0, 5, 5, NONE, 49);
        due("7 six of five", x.judge(2, 2, 0, 6, 0), -2);
        x.law(3);
        due("33 six turns", x.many(4), 6);
        judged("7 six turns", x, 0, 6, 6, NONE, 39);
        due("7 seven of six", x.judge(2, 2, 0, 7, 0), -2);
        due("8 seven of six", x.worthOf(2, 2, 0, 7, 0), -2);
        due("8 own twice", x.worthOf(2, 2, 0, 6, 0), 6);
        x = Checks.of("j99;l0;pw0190;pw0109;pw0109;pw0109;pw0109");
        x.law(3);
        Checks.row(x, 2, 0, 0, 0, 0, 0, 0);
        due("8 twice what he says himself", x.worthOf(2, 2, 0, 6, 0), 18 + 36);
        due("8 three others, and nothing of his own", x.worthOf(2, 2, 0, 6, 1), 27);
        x.swap(0, 4);
        due("8 the other one is first and last", x.worthOf(2, 2, 0, 6, 0), 9 + 45);
        due("8 his own is worth nothing to him", x.worthOf(2, 2, 0, 6, 4), 27);
        x.law(2);
        due("33 law 2: five turns", x.many(4), 5);
        due("7 law 2: six of five", x.judge(2, 2, 0, 6, 0), -2);
    }

    // ---- 3 for himself

    private void forHimself() {
        askedFirst();
        allWaterThereMayBe();
        ofSeveral();
        sixTurnsForHimself();
        lawsOneAfterAnother();
    }

    /** What is asked first behind a text, a law, a change of places. */
    private void askedFirst() {
        due("9", Checks.of(SECOND).choice(0, 10), NONE);
        due("10", Checks.of(SECOND).says(0), NONE);
        due("10", Checks.of(SECOND).says(1), 1);
        due("11", Checks.of(SECOND).water(1), 10);
        due("12", Checks.of(SECOND).worth(0), 1);
        due("12", Checks.of(SECOND).worth(1), 2);
        due("14", Checks.of(SECOND).owed(0, 1), 2 - 10);
        due("15", Checks.of(SECOND).bargain(0, 1), 0);
        due("15", Checks.of(SECOND).bargain(1, 0), -3);
        due("17 by what he doesn't say", Checks.of(SECOND).dry(1, 0), 1);
        due("17 by what he says", Checks.of(SECOND).dry(1, 1), 1);
        due("22 upper", Checks.of(SECOND).share(1, 0), 3);
        due("22 lower", Checks.of(SECOND).share(1, 1), 5);
        JarCouncil x = Checks.of(SECOND);
        due("10 before", x.says(0), NONE);
        x.swap(0, 1);
        due("10 behind a swap", x.says(0), 1);
        due("12 behind a swap", x.worth(0), 1);
        due("12 behind a swap", x.worth(1), 2);
        x.swap(1, 0);
        due("12 behind a swap", x.worth(0), 1);
        x.law(1);
        due("11 behind a law", x.water(0), 5);
        x.law(0);
        due("22 behind a law", x.share(1, 0), 3);
        Checks.council(x, FIVE);
        due("22 behind a text", x.share(1, 0), 10);
    }

    /** WATER 0 .. JAR. */
    private void allWaterThereMayBe() {
        JarCouncil x = Checks.of("j99;l0;pw0191;ow0191;tw0291");
        for (int water = 0; water <= 99; water++) {
            due("9 water " + water, x.choice(0, water), water >= 1 ? 0 : NONE);
            due("9 an old one, water " + water, x.choice(1, water), NONE);
            due("9 the last one, water " + water, x.choice(2, water), water >= 2 ? 0 : NONE);
        }
        due("9 water 100", x.choice(0, 100), -2);
        x.law(1);
        due("9 law 1: all of the jar", x.choice(2, 99), 0);
        due("9 law 1: more", x.choice(2, 100), -2);
        x = Checks.of("j01;l0;pw0191;tw0291");
        due("9 the least jar", x.choice(0, 1), 0);
        due("9 more than the least jar", x.choice(0, 2), -2);
        due("9 never enough", x.choice(1, 1), NONE);
        for (int turn = 0; turn < 6; turn++) {
            x = Checks.of("j99;l0;pw0110w5090;pw0110w5090;pw0110w5090;pw0110w5090;pw0110w5090");
            x.law(3);
            for (int water = 0; water <= 99; water++) {
                int due = water >= 50 ? 1 : water >= 1 ? 0 : NONE;
                due("9 six turns, turn " + turn + " water " + water, x.choice(turn, water), due);
            }
        }
    }

    /** Of several a PLAIN one the longest, a THRIFTY one the shortest (NOTHING: 0); the least number. */
    private void ofSeveral() {
        JarCouncil x = Checks.of("j20;l0;pw0500w0700w0700;tw0500w0700");
        due("9 plain: longest, least number", x.choice(0, 20), 1);
        due("9 plain: just enough", x.choice(0, 7), 1);
        due("9 plain: the next one", x.choice(0, 6), 0);
        due("9 plain: none is heard", x.choice(0, 4), NONE);
        due("9 thrifty: nothing", x.choice(1, 20), NONE);
        x = Checks.of("j20;l0;pw0520w0510w0910;tw0910w0510w0510");
        due("9 plain: the greatest first", x.choice(0, 20), 0);
        due("9 thrifty: shortest, least number", x.choice(1, 20), 1);
        due("9 thrifty: just enough", x.choice(1, 5), 1);
        due("9 thrifty: too little", x.choice(1, 4), NONE);
        x = Checks.of("j20;l0;tw0911w0511w0911;pw1010");
        due("9 thrifty: another one speaks behind him", x.choice(0, 20), 1);
        x = Checks.of("j10;l0;pw0120w0220;tw0190w0290");
        due("9 plain: what is worth the same, the longest", x.choice(0, 10), 1);
        due("9 thrifty: what is worth the same, the shortest", x.choice(1, 10), 0);
        x = Checks.of("j10;l0;pw0910;tw0211");
        due("9 plain: to speak or to hear is worth the same: he speaks", x.choice(0, 10), 0);
        x = Checks.of("j10;l0;tw0910;tw0211");
        due("9 thrifty: the same: he is silent", x.choice(0, 10), NONE);
    }

    private void sixTurnsForHimself() {
        JarCouncil x = Checks.of(FIVE);
        x.law(3);
        for (int turn = 0; turn < 6; turn++) {
            due("10 turn " + turn, x.says(turn), 0);
            due("11 turn " + turn, x.water(turn), 99 - 10 * turn);
            due("9 turn " + turn, x.choice(turn, 10), 0);
            due("9 turn " + turn, x.choice(turn, 9), NONE);
            due("13 turn " + turn, x.together(turn), 0);
        }
        due("10 turn 6", x.says(6), -1);
        due("13 turn 6", x.together(6), -1);
        due("12 twice his own", x.worth(0), 6);
        due("13 to all", x.together(-1), 30);
        // He waits for his second turn, as he then hears the other one, too.
        x = Checks.of("j10;l0;pw0610;pw0411w0901");
        x.law(3);
        due("10 he counts his second turn", x.says(0), 0);
        due("10 the other one", x.says(1), 0);
        due("10 none is left", x.says(2), NONE);
        x = Checks.of("j10;l0;pw0619w0110;pw0990");
        x.law(3);
        due("10 the longest first, then the shortest", x.says(0), 0);
        due("10 the other one can't", x.says(1), NONE);
        due("10 then the shortest", x.says(2), 1);
    }

    /** What stands behind the last TURN by one LAW is nothing by the next one. */
    private void lawsOneAfterAnother() {
        JarCouncil x = Checks.of("j10;l0;pw0619;pw0610");
        due("9 law 0: he speaks", x.choice(1, 10), 0);
        x.law(3);
        due("9 law 3: he waits for turn 2", x.choice(1, 10), NONE);
        x.law(0);
        due("9 law 0 again", x.choice(1, 10), 0);
        x.law(3);
        due("13 law 3: the dear word once", x.together(-1), 10);
        due("9 law 3 again", x.choice(1, 10), NONE);
        x.law(1);
        due("9 law 1: he can't wait", x.choice(1, 10), 0);
        x.law(2);
        due("9 law 2: none behind him", x.choice(1, 10), 0);
    }

    // ---- 3 together

    private void together() {
        JarCouncil x = Checks.of("j10;l1;tw0511;tw0511");
        due("13 the first row: he who is first", x.together(0), 0);
        due("13 nobody is cut off by the leak", x.together(1), NONE);
        due("13 worth to all", x.together(-1), 2);
        x = Checks.of("j11;l1;tw0511;tw0511");
        due("13 just enough behind the leak", x.together(1), 0);
        due("13 worth to all", x.together(-1), 4);
        x = Checks.of("j10;l0;ow0500;ow0501");
        due("13 a word of no worth, rather than nothing", x.together(0), 0);
        due("13 and the other one's", x.together(1), 0);
        x = Checks.of("j09;l0;ow0500;ow0501");
        due("13 nothing, so that one is heard", x.together(0), NONE);
        due("13 worth to all", x.together(-1), 1);
        x = Checks.of("j09;l0;ow1011;ow1011");
        due("13 no word is heard: 0", x.together(-1), 0);
        due("13 no word is heard: nothing", x.together(0), NONE);
        due("13 no word is heard: nothing", x.together(1), NONE);
        x = Checks.of("j10;l0;pw0611;ow0692");
        due("13 by order: the second one's word", x.together(1), 0);
        x.swap(0, 1);
        due("13 by the other order: the first one's word", x.together(0), 0);
        due("13 by the other order: nothing is left", x.together(1), NONE);
        x = Checks.of("j20;l0;pw0401w0110w0210;pw0101");
        due("13 of even sums the least number", x.together(0), 0);
        x = Checks.of("j12;l2;pw0311;pw0311");
        x.law(2);
        due("13 law 2: half of 7 is just enough", x.together(-1), 4);
        x = Checks.of("j11;l2;pw0411;pw0411");
        x.law(2);
        due("13 law 2: half of 5 is too little", x.together(-1), 2);
        x = Checks.of("j09;l9;pw0411w0511;pw0411w0511");
        x.law(1);
        due("13 law 1: each has 4", x.together(-1), 4);
        due("13 law 1: of even ones the least", x.together(1), 0);
        x = Checks.of(LARGEST);
        x.law(3);
        // Words of length 1 alone, and leaks of 9, leave water for all six: 99, 89, 79, 69, 59, 49.
        due("13 all of the largest", x.together(-1), 6 * 45);
        due("13 all of the largest, the first", x.together(0), 2);
        due("13 all of the largest, the last", x.together(5), 2);
        mostWays();
    }

    /** There is water for each word in each turn: as many ways to go on as there can be. */
    private void mostWays() {
        JarCouncil x = Checks.of("j99;l0;pw0101w0201w0399;pw0101w0201w0399;pw0101w0201w0399"
                + ";pw0101w0201w0399;pw0101w0201w0399");
        x.law(3);
        due("21 each says the dearest", x.byLaw(3), 6 * 45);
        due("13 each says the dearest", x.together(-1), 6 * 45);
        for (int turn = 0; turn < 6; turn++) {
            due("13 turn " + turn, x.together(turn), 2);
        }
        due("16 each says the dearest now", x.motion(0, 2, -1), 0);
        due("16 nobody says another one", x.motion(0, 0, -1), NONE);
    }

    // ---- 4 thanks

    private void thanks() {
        JarCouncil x = Checks.of("j10;l0;pw1011w0511;pw0191");
        due("14 the longest is just enough", x.owed(0, 1), 9 - 1);
        x = Checks.of("j09;l0;pw1011w0511;pw0191");
        due("14 the longest is too long", x.owed(0, 1), 9 - 10);
        x = Checks.of("j10;l0;pw0511w0512w0513;pw6091");
        due("14 of several the least number", x.owed(0, 1), -1);
        x = Checks.of("j10;l0;pw1111;pw0191");
        due("14 none is heard: both days are one", x.owed(0, 1), 0);
        x = Checks.of("j10;l0;ow1011;ow0191");
        due("14 old ones: nothing else is said", x.owed(0, 1), -1);
        x = Checks.of("j10;l0;pw6091;ow0512;pw0891");
        due("14 there: in his turn's water", x.owed(1, 2), 9 - 2);
        due("14 to one who is ahead of him", x.owed(1, 0), 1 - 2);
        due("14 the last one", x.owed(2, 0), -1);
        due("15 the last one", x.bargain(2, 0), -10);
        due("15 an old one says nothing anyway", x.bargain(1, 2), 0);
        x = Checks.of("j10;l0;pw0699;pw0699");
        x.law(3);
        // Silent in turn 0, he hears the other one: 9 and 9. Else he speaks, and nobody is heard behind.
        due("14 his first turn alone", x.owed(0, 1), 0);
        due("15 his first turn alone", x.bargain(0, 1), 0);
        x = Checks.of("j12;l0;pw0690;pw0790");
        x.law(3);
        // Silent: the other one says 7 of 12, 5 are left. Else both of his turns: 6 and 6.
        due("14 law 3", x.owed(0, 1), 9);
        due("15 law 3", x.bargain(0, 1), 9 - 18);
        x.law(1);
        due("14 law 1: each has his own", x.owed(0, 1), 0);
        due("15 law 1: the other one can't", x.bargain(0, 1), -9);
        // The other one waits if there is water for one word alone: 18 and 2; else both speak: 10 and 1.
        x = Checks.of("j10;l0;pw0591;pw0501");
        x.law(3);
        due("15 law 3, silent in his first turn", x.bargain(0, 1), 11 - 20);
        due("14 law 3, silent in his first turn", x.owed(0, 1), 1 - 2);
        x = Checks.of("j99;l0;pw0109;pw0109;pw0109;pw0109;pw0190");
        due("14 the most that he'd lose", x.owed(0, 1), -9);
        x.law(3);
        due("15 two sums", x.bargain(0, 4), -9);
    }

    // ---- 4 orders

    private void orders() {
        nearOrders();
        farOrders();
    }

    private void motioned(String what, JarCouncil x, int k, int q, int changes, int... row) {
        due(what + ": how many", x.motion(k, q, -1), changes);
        for (int p = 0; p < row.length; p++) {
            due(what + ": place " + p, x.motion(k, q, p), row[p]);
        }
        due(what + ": no such place", x.motion(k, q, row.length), -1);
    }

    private void nearOrders() {
        JarCouncil x = Checks.of("j10;l0;pw0691;pw0691;pw0691;pw0691;pw0691");
        motioned("16 now", x, 0, 0, 0, 0, 1, 2, 3, 4);
        for (int k = 1; k < 5; k++) {
            due("16 he and the first one change", x.motion(k, 0, -1), 2);
            due("16 he is first", x.motion(k, 0, 0), k);
            due("16 the first one has his place", x.motion(k, 0, k), 0);
        }
        x.swap(0, 4);
        motioned("16 now is another row", x, 4, 0, 0, 4, 1, 2, 3, 0);
        motioned("16 from the other row", x, 0, 0, 2, 0, 1, 2, 3, 4);
        motioned("16 from the other row", x, 2, 0, 2, 2, 1, 4, 3, 0);
        x.law(3);
        motioned("16 law 3", x, 1, 0, 2, 1, 4, 2, 3, 0);
        x.law(1);
        motioned("16 law 1: none is heard", x, 4, 0, NONE, NONE, NONE, NONE, NONE, NONE);
        // The first two are heard: of three changes of two the one that is first as a row.
        x = Checks.of("j12;l0;pw0691;pw0691;pw0691;pw0691");
        motioned("16 of several the first", x, 3, 0, 2, 0, 3, 2, 1);
        motioned("16 of several the first", x, 2, 0, 2, 0, 2, 1, 3);
        x.swap(0, 3);
        motioned("16 of several the first", x, 0, 0, 2, 0, 1, 2, 3);
        // His second word is said by him alone who is behind the long one.
        x = Checks.of("j10;l0;pw0990w0110;pw0890");
        motioned("16 the first word", x, 0, 0, 0, 0, 1);
        motioned("16 the second word", x, 0, 1, 2, 1, 0);
        // By LAW 3 he says his second word in his second turn.
        x = Checks.of("j10;l0;pw0619w0110;pw0990");
        motioned("16 the second word, law 0", x, 0, 1, 2, 1, 0);
        x.law(3);
        motioned("16 the second word, law 3", x, 0, 1, 0, 0, 1);
        x = Checks.of("j10;l0;pw0110w0190;ow0111");
        motioned("16 a word that is never the best", x, 0, 0, NONE, NONE, NONE);
        motioned("16 an old one's", x, 1, 0, NONE, NONE, NONE);
    }

    private void farOrders() {
        // THRIFTY 1 says the shorter word with 3 drops alone: 15 less three leaks and the 3 of 4, who
        // speaks ahead of 3, so that 3's word is not heard: 43210, 42310, 24310.
        JarCouncil x = Checks.of("j15;l3;pw0140;tw0340w0470;pw1710;pw1050;tw0350");
        motioned("16 the last row of all", x, 1, 0, 4, 4, 3, 2, 1, 0);
        // PLAIN 1 says the shorter word with 1 or 2 drops alone: 19 less two leaks, 7 and 6, whose
        // two are ahead of him in either order, the others behind him: each place has another one.
        x = Checks.of("j19;l2;tw1770;pw0100w0310;pw1910;tw0720;pw0620");
        motioned("16 all five change", x, 1, 0, 5, 3, 4, 1, 0, 2);
        due("16 the order stays", x.ofSpeaker(1, 2), 1);
        due("16 the plan stays", x.says(0), 0);
    }

    // ---- 4 dry

    private void dry() {
        JarCouncil x = Checks.of("j10;l0;pw6011;pw6011;pw0111");
        due("17 each of two", x.dry(2, 0), 1 | 2);
        due("17 never said: all others", x.dry(0, 0), 2 | 4);
        x = Checks.of("j10;l0;pw1011;pw0111");
        due("17 a word that is heard, and the last drop", x.dry(1, 0), 1);
        x = Checks.of("j11;l0;pw1019;pw0111");
        due("17 one drop is left", x.dry(1, 0), 0);
        x = Checks.of("j11;l1;pw1019;pw0111");
        due("17 one drop that leaks", x.dry(1, 0), 1);
        x = Checks.of("j60;l0;pw0111w0211w6011;pw0111");
        due("17 by his last word", x.dry(1, 0), 1);
        due("17 those behind can't", x.dry(0, 1), 0);
        due("17 a word that he doesn't say", x.dry(0, 0), 2);
        x = Checks.of("j99;l0;pw5091;ow6011;ow4011;pw0111;pw4891");
        due("17 cut off, and too long", x.dry(4, 0), 1 << 1 | 1 << 2);
        due("17 a word that's too short", x.dry(3, 0), 1 << 1);
        x.law(1);
        due("17 law 1: nobody", x.dry(3, 0), 0);
        // By LAW 3 what 0 says at the end is no more than his choice there.
        x = Checks.of("j10;l0;ow1011;pw0511");
        x.law(3);
        due("17 law 3, first turn", x.dry(1, 0), 1);
        x.swap(0, 1);
        due("17 law 3, he has spoken", x.dry(1, 0), 0);
        // He says 6 of 10 first, and 1 of the 4 that are left, if the other one doesn't say 4 of them.
        x = Checks.of("j10;l0;pw0619w0110;ow0411");
        x.law(3);
        due("17 law 3, the word of his second turn", x.dry(0, 1), 2);
        due("17 law 3, the word of his first turn", x.dry(0, 0), 0);
        x = Checks.of("j10;l0;pw0619w0110;ow0311");
        x.law(3);
        due("17 law 3, just enough for his second turn", x.dry(0, 1), 0);
    }

    // ---- 5 the log

    private void theLog() {
        sixDays();
        daysOfSixTurns();
        leaksGuessed();
        back();
    }

    private void sixDays() {
        JarCouncil x = Checks.of("j40;l3;pw1051;tw0862;pw2093");
        Checks.row(x, 2, NONE, NONE, NONE);
        for (int d = 0; d < 6; d++) {
            due("20 no leak so far", x.guess(0), 10 + d);
            due("18 number", x.day(2, 2, 0, 40), d);
        }
        due("20 no leak: 0 since any day, any since the next", x.guess(0), 6 + 10);
        due("20 the first", x.guess(1), 0);
        due("18 a seventh one", x.day(2, 2, 0, 40), -4);
        due("18 a seventh one's fault", x.fault(), 0);
        due("7 a day that is judged", x.judge(2, 2, 0, 3, 0), 0);
        due("8 a day that is judged", x.worthOf(2, 2, 0, 3, 0), 0);
        due("33 still six", x.many(5), 6);
        due("18 end ahead of full", x.day(2, 2, 0, -1), -2);
        x.put(2, 0, 1);
        due("18 word ahead of full", x.day(2, 2, 0, 40), -1);
        due("19 one back", x.back(1), 5);
        x.put(2, 0, NONE);
        due("18 the sixth one again", x.day(2, 2, 0, 34), 5);
        due("20 since the last day", x.guess(0), 1);
        due("20 since the last day", x.guess(1), 52);
        due("18 full again", x.day(2, 2, 0, 40), -4);
        due("19 none back", x.back(0), 6);
        due("19 all back", x.back(6), 0);
        due("20 no days", x.guess(0), 10);
    }

    /** A row by TURNS is kept of each DAY. */
    private void daysOfSixTurns() {
        JarCouncil x = Checks.of("j99;l0;pw0111w0211;pw0311w0411;pw0511w0611;pw0711w0811;pw0911w1011");
        x.law(3);
        int[] lengths = {2, 4, 6, 8, 10, 2};
        for (int d = 0; d < 6; d++) {
            int[] row = {NONE, NONE, NONE, NONE, NONE, NONE};
            row[d] = 1;
            Checks.row(x, 2, row);
            due("18 day " + d, x.day(2, 2, 0, 99 - lengths[d] - (d < 3 ? 0 : 6 * 2)), d);
        }
        due("20 one pair", x.guess(0), 1);
        due("20 since day 3, by 2", x.guess(1), 32);
        Checks.row(x, 2, 0, 0, 0, 0, 0, 0);
        due("20 what stands in the sheet later is nothing to it", x.guess(1), 32);
        due("19 three back", x.back(3), 3);
        due("20 no leak so far", x.guess(0), 3 + 10);
        due("18 each says a word", x.day(2, 2, 0, 99 - 26 - 6 * 9), 3);
        due("20 the most that can leak", x.guess(0), 1);
        due("20 the most that can leak", x.guess(1), 39);
    }

    private void leaksGuessed() {
        JarCouncil x = Checks.of("j20;l5;pw0911;pw0911");
        Checks.row(x, 2, NONE, NONE, 0, 0);
        x.day(2, 2, 0, 2);
        due("20 the most", x.guess(0), 1);
        due("20 the most", x.guess(1), 9);
        x.back(1);
        x.day(2, 2, 0, 1);
        due("20 more than can leak", x.guess(0), 0);
        due("20 more than can leak: none", x.guess(1), NONE);
        x.back(1);
        x.day(2, 2, 0, 21);
        due("20 more than there was", x.guess(1), NONE);
        x.back(1);
        x.day(2, 2, 2, 0);
        // 20 - 9 - l, 9 are heard by l 2 at most, and 0 are left by l 1 and 2; else he is cut off.
        due("20 cut off or just empty", x.guess(0), 9);
        due("20 the least that is so", x.guess(1), 1);
        x.day(2, 2, 0, 20);
        due("20 ahead of a day without a leak", x.guess(0), 0);
        x.law(1);
        Checks.row(x, 2, NONE, NONE, 0, 0);
        x.day(2, 2, 2, 10);
        due("20 law 1: any leak since any day", x.guess(0), 20);
        x.day(2, 2, 0, 9);
        due("20 law 1: none", x.guess(0), 0);
        x.law(2);
        x.day(2, 2, 0, 2);
        // Half of 20 - l, less l, and half: 2 by l 4 (8, 4, 2) and by l 3 (8, 5, 2).
        due("20 law 2: two leaks", x.guess(0), 2);
        due("20 law 2: the first", x.guess(1), 3);
        due("33 the council's own leak stays", x.many(2), 5);
        due("11 and runs", x.water(1), 3);
        // Day 0 ends empty by any leak (heard with the last drop, or cut off), day 1 by 4 alone.
        x = Checks.of("j10;l0;pw1011;pw1011");
        Checks.row(x, 2, NONE, 0, NONE, NONE);
        x.day(2, 2, 0, 0);
        x.day(2, 2, 2, 2);
        due("20 since day 0 by 4, or since day 1 by 4", x.guess(0), 2);
        due("20 the earlier day", x.guess(1), 4);
    }

    private void back() {
        JarCouncil x = Checks.of("j20;l5;pw0911;pw0911");
        Checks.row(x, 2, NONE, NONE);
        x.day(2, 2, 0, 20);
        due("19 two of one", x.back(2), -2);
        due("19 one of one", x.back(1), 0);
        due("19 one of none", x.back(1), -2);
        due("19 none of none", x.back(0), 0);
        x.day(2, 2, 0, 20);
        x.swap(1, 1);
        due("6 with himself: no log", x.many(5), 0);
        x.day(2, 2, 0, 20);
        x.law(0);
        due("5 the same law: no log", x.many(5), 0);
        x.day(2, 2, 0, 0);
        due("18 the least end", x.many(5), 1);
        x.day(2, 2, 0, 99);
        due("18 the most", x.many(5), 2);
    }

    // ---- 5 laws, shares

    private void laws() {
        best("j18;l3;pw0110;pw0690;pw0690", 1, 10, 19, 10, 11);
        best("j10;l3;pw0915;tw0432", 2, 5, 5, 6, 5);
        best("j20;l0;pw0691;pw0691", 3, 20, 20, 20, 30);
        best("j20;l0;ow0691;ow0691", 0, 0, 0, 0, 0);
        best("j12;l9;pw0691;ow0691", 0, 10, 10, 10, 10);
        best("j12;l6;pw0691;pw0691", 1, 10, 20, 10, 10);
        best("j99;l0;pw0199;pw0199;pw0199;pw0199;pw0199", 3, 225, 225, 225, 270);
    }

    private void best(String text, int best, int... worths) {
        JarCouncil x = Checks.of(text);
        due("21 best of " + text, x.byLaw(-1), best);
        for (int v = 0; v < 4; v++) {
            due("21 " + text + " by law " + v, x.byLaw(v), worths[v]);
        }
        due("21 the law stays", x.many(3), 0);
        due("21 best by another law, too", x.law(3), 0);
        due("21 best by another law, too", x.byLaw(-1), best);
        due("21 law 0 by another law, too", x.byLaw(0), worths[0]);
    }

    private void shares() {
        shared("nothing of the most", "j99;l0;ow0191;pw0191", 0, 0, 1);
        shared("one of the most", "j99;l0;ow0191;pw0191", 1, 1, 99);
        shared("one of one", "j01;l0;pw0191;pw0191", 0, 1, 1);
        shared("nothing of one", "j01;l0;pw0191;pw0191", 1, 0, 1);
        shared("60 of 90", "j90;l0;pw6091;pw3091", 0, 2, 3);
        shared("30 of 90", "j90;l0;pw6091;pw3091", 1, 1, 3);
        shared("60 of 97", "j97;l9;pw6091;pw0191", 0, 60, 97);
        shared("55 of 89", "j89;l0;pw5591;pw3491", 0, 55, 89);
        shared("34 of 89", "j89;l0;pw5591;pw3491", 1, 34, 89);
        JarCouncil x = Checks.of("j90;l0;pw4091;pw0591");
        x.law(3);
        due("22 both of his turns: 80 of 90, upper", x.share(0, 0), 8);
        due("22 both of his turns: 80 of 90, lower", x.share(0, 1), 9);
        x.law(1);
        due("22 law 1: 40 of the whole jar, upper", x.share(0, 0), 4);
        due("22 law 1: 40 of the whole jar, lower", x.share(0, 1), 9);
        x.law(2);
        due("22 law 2: 5 of the whole jar, upper", x.share(1, 0), 1);
        due("22 law 2: 5 of the whole jar, lower", x.share(1, 1), 18);
    }

    private void shared(String what, String text, int k, int upper, int lower) {
        JarCouncil x = Checks.of(text);
        due("22 " + what + ", lower", x.share(k, 1), lower);
        due("22 " + what + ", upper", x.share(k, 0), upper);
    }

    // ---- 6 sheets

    private void sheets() {
        rowsOfLanes();
        cutToLanes();
        copies();
    }

    /** A row of 0 .. 100 numbers (0 at first). */
    private void rowsOfLanes() {
        JarCouncil x = new JarCouncil();
        for (int k = 0; k < 4; k++) {
            int lane = k % 3;
            due("23 100 cells", x.sheet(k, lane, 100), 1);
            due("25 the first", x.put(k, 0, k + 1), 1);
            due("25 the last", x.put(k, 99, -k), 1);
            due("25 one more", x.put(k, 100, 1), -13);
            due("25 one less", x.put(k, -1, 1), -13);
        }
        for (int k = 0; k < 4; k++) {
            due("26 the first", x.cell(k, 0, k % 3), k + 1);
            due("26 the last", x.cell(k, 99, k % 3), -k);
            due("23 anew", x.sheet(k, k % 3, 100), 1);
            due("23 0 at first", x.cell(k, 0, k % 3), 0);
            due("23 0 at first", x.cell(k, 99, k % 3), 0);
        }
        due("23 no cells", x.sheet(0, 1, 0), 1);
        due("25 none to put", x.put(0, 0, 1), -13);
        due("26 none to tell", x.cell(0, 0, 1), Long.MIN_VALUE);
        due("26 index", x.fault(), 3);
        due("24 a row of no cells is something", x.lose(0), 1);
        due("26 none to tell", x.cell(0, 0, 1), Long.MIN_VALUE);
        due("26 nothing", x.fault(), 1);
        due("24 nothing", x.lose(0), 0);
        due("23 one cell", x.sheet(0, 1, 1), 1);
        due("26 0, not what had been there", x.cell(0, 0, 1), 0);
    }

    /** What comes to a cell of it is cut to its LANE (with its sign). */
    private void cutToLanes() {
        int[] told = {127, 128, 255, 256, -128, -129, 32767, 32768, 65535, 65536, -32768, -32769,
            Integer.MAX_VALUE, Integer.MIN_VALUE};
        int[] bytes = {127, -128, -1, 0, -128, 127, -1, 0, -1, 0, 0, -1, -1, 0};
        int[] shorts = {127, 128, 255, 256, -128, -129, 32767, -32768, -1, 0, -32768, 32767, -1, 0};
        JarCouncil x = new JarCouncil();
        x.sheet(0, 0, told.length);
        x.sheet(1, 1, told.length);
        x.sheet(2, 2, told.length);
        for (int i = 0; i < told.length; i++) {
            x.put(0, i, told[i]);
            x.put(1, i, told[i]);
            x.put(2, i, told[i]);
            due("25 byte of " + told[i], x.cell(0, i, 0), bytes[i]);
            due("25 short of " + told[i], x.cell(1, i, 1), shorts[i]);
            due("25 int of " + told[i], x.cell(2, i, 2), told[i]);
        }
        Checks.council(x, "j20;l0;pw0111;pw0111");
        x.put(0, 0, 256);
        x.put(1, 0, 65536);
        due("7 a byte that is 0", x.judge(0, 0, 0, 1, 0), 1);
        due("7 a short that is 0", x.judge(1, 1, 0, 1, 0), 1);
        x.put(0, 0, 256 - 9);
        due("7 a byte that is nothing", x.judge(0, 0, 0, 1, 0), 0);
    }

    /** As they were, though both rows may be one. */
    private void copies() {
        JarCouncil x = new JarCouncil();
        x.sheet(0, 0, 100);
        x.sheet(1, 0, 100);
        for (int i = 0; i < 100; i++) {
            x.put(0, i, i);
        }
        due("27 all", x.copy(0, 0, 1, 0, 100), 100);
        due("27 the last of them", x.cell(1, 99, 0), 99);
        due("27 up by one", x.copy(0, 0, 0, 1, 99), 99);
        due("27 up by one: the first", x.cell(0, 0, 0), 0);
        due("27 up by one: as it was", x.cell(0, 50, 0), 49);
        due("27 up by one: the last", x.cell(0, 99, 0), 98);
        due("27 down by two", x.copy(0, 2, 0, 0, 98), 98);
        due("27 down by two: the first", x.cell(0, 0, 0), 1);
        due("27 down by two: as it was", x.cell(0, 50, 0), 51);
        due("27 down by two: the last", x.cell(0, 99, 0), 98);
        due("27 to where they are", x.copy(1, 0, 1, 0, 100), 100);
        due("27 to where they are", x.cell(1, 99, 0), 99);
        due("27 none at either end", x.copy(0, 100, 1, 100, 0), 0);
        due("27 none in itself", x.copy(0, 100, 0, 0, 0), 0);
        due("27 the last one", x.copy(1, 0, 0, 99, 1), 1);
        due("27 the last one", x.cell(0, 99, 0), 0);
        x.sheet(2, 2, 0);
        x.sheet(3, 2, 0);
        due("27 none of none", x.copy(2, 0, 3, 0, 0), 0);
        due("27 one of none", x.copy(2, 0, 3, 0, 1), -13);
        due("27 none behind none", x.copy(2, 1, 3, 0, 0), -13);
    }

    // ---- 6 parts

    private void parts() {
        JarCouncil x = Checks.of("j99;l0;pw0111w0111w0111;tw0111w0111w0111;ow0111w0111w0111;pw0111;tw0111");
        int[] tells = {3, 103, 106, 1, 101};
        int[] calls = {0, 1, 90, 3, 4};
        int[][] bodies = {{1}, {2, 1}, {3, 2, 1, 1}, {1}, {2, 1}};
        int trace = 0;
        for (int k = 0; k < 5; k++) {
            due("28 told", x.tell(k), tells[k]);
            for (int body : bodies[k]) {
                trace = 31 * trace + body;
            }
            due("31 told", x.trace(), trace);
            due("29 called", x.call(k), calls[k]);
            trace = 31 * trace + (k == 2 ? 5 : 4);
            due("31 called", x.trace(), trace);
            for (int kind = 0; kind < 3; kind++) {
                due("30 as", x.as(k, kind), kind <= x.ofSpeaker(k, 0) ? 1 : -12);
            }
        }
        due("31 as leaves nothing", x.trace(), trace);
        x.swap(0, 2);
        x.swap(1, 3);
        for (int k = 0; k < 5; k++) {
            due("28 told in another order", x.tell(k), tells[k]);
            due("29 called in another order", x.call(k), calls[k]);
            due("30 as an old one in another order", x.as(k, 2), k == 2 ? 1 : -12);
        }
        x = Checks.of("j99;l0;ow0111;ow0111");
        // 31 to the seventh power is above the most that an int holds.
        long wide = 0;
        for (int i = 0; i < 7; i++) {
            x.call(i % 2);
            wide = 31 * wide + 5;
        }
        due("31 wraps", x.trace(), (int) wide);
        due("31 has wrapped", wide > Integer.MAX_VALUE ? 1 : 0, 1);
    }

    // ---- fault()

    /** 0: it came to none; calls that name no FAULTS leave it as it was. */
    private void faults() {
        JarCouncil x = Checks.of("j40;l3;pw1051;tw0862;pw2093");
        Checks.row(x, 2, NONE, NONE, NONE);
        cameToNone("council", x, x.council(3, 2, 0, 27) - 3);
        Checks.row(x, 2, NONE, NONE, NONE);
        cameToNone("judge, none", x, x.judge(2, 2, 0, 3, 1) - NONE);
        cameToNone("worthOf", x, x.worthOf(2, 2, 0, 3, 0));
        cameToNone("day", x, x.day(2, 2, 0, 40));
        cameToNone("sheet", x, x.sheet(1, 0, 9) - 1);
        cameToNone("put", x, x.put(1, 0, 1) - 1);
        cameToNone("put of what is no fault", x, x.put(1, 0, -13) - 1);
        cameToNone("cell", x, x.cell(1, 1, 0));
        cameToNone("cell of what is no fault", x, x.cell(1, 0, 0) + 13);
        cameToNone("copy", x, x.copy(1, 0, 1, 1, 2) - 2);
        cameToNone("as", x, x.as(1, 0) - 1);
        due("32 size", x.sheet(0, 0, -1), -14);
        long[] answers = {x.ofSpeaker(0, 0), x.ofWord(0, 0, 0), x.law(0), x.swap(0, 0), x.choice(0, 0), x.says(0),
            x.water(0), x.worth(0), x.together(0), x.owed(0, 1), x.bargain(0, 1), x.motion(0, 0, 0), x.dry(0, 0),
            x.back(0), x.guess(0), x.byLaw(0), x.share(0, 0), x.lose(1), x.tell(0), x.call(0), x.trace(), x.many(0)};
        due("32 " + answers.length + " calls that name none", x.fault(), 4);
        due("32 told once more", x.fault(), 4);
    }

    /** The fault is set ahead of the next call, and gone behind each one of these. */
    private void cameToNone(String what, JarCouncil x, long difference) {
        due("32 " + what + " answers", difference, 0);
        due("32 " + what + " came to none", x.fault(), 0);
        x.sheet(0, 0, -1);
        due("32 size", x.fault(), 4);
    }
}
