/** Each promise: ordinary answers, the edges that the document names, and wrong arguments. */
public final class PromiseTest {
    private static final long LOST = Long.MIN_VALUE;
    /** PLAIN, THRIFTY, OLD; water for all that they'd say. */
    private static final String THREE = "j20;l1;pw0553;tw0592w1099;ow0199";
    private static final String LOGGED = "j40;l3;pw1051;tw0862;pw2093";
    /** Both would speak, and there is water for one. */
    private static final String SCARCE = "j10;l0;pw0691;pw0691";

    private final Checks checks = new Checks("PromiseTest");

    public static void main(String[] args) {
        PromiseTest test = new PromiseTest();
        test.theCouncil();
        test.daysTold();
        test.forHimself();
        test.thanksAndOrders();
        test.logLawsShares();
        test.sheetsAndParts();
        test.checks.finish();
    }

    private void due(String what, long got, long want) {
        checks.due(what, got, want);
    }

    private void text(String text, int want) {
        due("council of " + text, Checks.council(new JarCouncil(), text), want);
    }

    // ---- 1 the council

    private void theCouncil() {
        promise1();
        promise2Texts();
        promise2Parts();
        promise2Refusals();
        promise2MakesAnew();
        promises3And4();
        promise5();
        promise6();
    }

    private void promise1() {
        JarCouncil x = new JarCouncil();
        due("1 trace", x.trace(), 0);
        due("1 fault", x.fault(), 0);
        for (int what = 0; what < 6; what++) {
            due("1 many " + what, x.many(what), 0);
        }
        for (int k = 0; k < 4; k++) {
            due("1 put", x.put(k, 0, 1), -11);
            due("1 lose", x.lose(k), 0);
            due("1 speaker", x.ofSpeaker(k, 0), -1);
            due("1 cell", x.cell(k, 0, 0), LOST);
            due("1 cell's fault", x.fault(), 1);
        }
    }

    private void promise2Texts() {
        text("j01;l0;pw0100;pw6099", 2);
        text("j99;l9;ow1011w0911w5911;tw0111;ow0111;pw0111;pw0111w0211w0311", 5);
        text("", -100);
        text("J", -100);
        text("j", -101);
        text("jx", -101);
        text("j0", -102);
        text("j00", -101);
        text("j00;l1", -101);
        text("j0x", -102);
        text("j99", -103);
        text("j99x", -103);
        text("j99;", -104);
        text("j99;m", -104);
        text("j99;l", -105);
        text("j99;lx", -105);
        text("j99;l9", -106);
        text("j99;l99", -106);
        text("j99;l9;", -107);
        text("j99;l9;q", -107);
        text("j99;l9;p", -108);
        text("j99;l9;p;", -108);
        text("j99;l9;pw", -109);
        text("j99;l9;pwx", -109);
        text("j99;l9;pw0", -110);
        text("j99;l9;pw00", -109);
        text("j99;l9;pw0x", -110);
        text("j99;l9;pw6", -110);
        text("j99;l9;pw61", -109);
        text("j99;l9;pw6x", -110);
        text("j99;l9;pw7", -109);
        text("j99;l9;pw7x", -109);
        text("j99;l9;pw99", -109);
        text("j99;l9;pw60", -111);
        text("j99;l9;pw60x", -111);
        text("j99;l9;pw601", -112);
        text("j99;l9;pw601x", -112);
        text("j99;l9;pw6011", -113);
        text("j99;l9;pw6011x", -113);
        text("j99;l9;pw6011;", -114);
        text("j99;l9;pw6011;pw6011x", -120);
        text("j99;l9;pw6011;pw6011;", -121);
        text("j20;l1;pw0111w0111w0111w0111", -123);
        text("j20;l1;pw0111;pw0111;pw0111;pw0111;pw0111;pw0111", -141);
        text("j20;l1;pw0111;pw0111;pw0111;pw0111;pw0111w", -142);
    }

    /** Cells behind the n that are told are no part of the text. */
    private void promise2Parts() {
        JarCouncil x = Checks.of(SCARCE);
        int whole = SCARCE.length();
        for (int n = 0; n < whole; n++) {
            due("2 the first " + n, x.council(3, 2, 0, n), -100 - n);
        }
        due("2 without the first", x.council(3, 2, 1, whole - 1), -100);
        due("2 the whole", x.council(3, 2, 0, whole), 2);
        for (int lane = 0; lane < 3; lane++) {
            x.sheet(0, lane, 60);
            for (int i = 0; i < THREE.length(); i++) {
                x.put(0, 7 + i, THREE.charAt(i) + (lane == 0 ? 256 : lane == 1 ? 65536 : 0));
            }
            due("2 by lane " + lane, x.council(0, lane, 7, THREE.length()), 3);
        }
        x.put(0, 7, 'j' + 256);
        due("2 another code of an int", x.council(0, 2, 7, THREE.length()), -100);
    }

    private void promise2Refusals() {
        JarCouncil x = new JarCouncil();
        due("2 sheet 4", x.council(4, 3, -1, -1), -1);
        due("2 sheet -1", x.council(-1, 0, 0, 0), -1);
        due("2 lane 3", x.council(0, 3, -1, -1), -2);
        due("2 lane -1", x.council(0, -1, -1, -1), -2);
        due("2 refused: no fault", x.fault(), 0);
        due("2 nothing", x.council(0, 0, -1, -1), -11);
        due("2 nothing's fault", x.fault(), 1);
        x.sheet(0, 1, 3);
        due("2 cast", x.council(0, 0, -1, -1), -12);
        due("2 cast's fault", x.fault(), 2);
        due("2 size", x.council(0, 1, -1, -1), -14);
        due("2 size's fault", x.fault(), 4);
        due("2 index -1", x.council(0, 1, -1, 0), -13);
        due("2 index's fault", x.fault(), 3);
        due("2 index 4 of none", x.council(0, 1, 4, 0), -13);
        due("2 index 2 of 2", x.council(0, 1, 2, 2), -13);
        due("2 index of very many", x.council(0, 1, 1, Integer.MAX_VALUE), -13);
        due("2 index very far", x.council(0, 1, Integer.MAX_VALUE, 1), -13);
        due("2 none of all", x.council(0, 1, 3, 0), -100);
        due("2 a faulty text is no fault", x.fault(), 0);
        due("2 a faulty text", x.council(0, 1, 0, 3), -100);
        due("2 nobody then", x.many(0), 0);
    }

    private void promise2MakesAnew() {
        JarCouncil x = Checks.of(LOGGED);
        x.tell(1);
        int trace = x.trace();
        x.law(2);
        x.swap(0, 2);
        Checks.row(x, 2, -9, -9, -9);
        due("2 day", x.day(2, 2, 0, 3), 0);
        due("2 faulty", Checks.council(x, "j20;l1;pw0553;tw0592w10990"), -125);
        due("2 faulty: jar stays", x.many(1), 40);
        due("2 faulty: law stays", x.many(3), 2);
        due("2 faulty: log stays", x.many(5), 1);
        due("2 faulty: order stays", x.ofSpeaker(0, 2), 2);
        due("2 faulty: words stay", x.ofWord(1, 0, 0), 8);
        due("2 anew", Checks.council(x, THREE), 3);
        due("2 anew: jar", x.many(1), 20);
        due("2 anew: leak", x.many(2), 1);
        due("2 anew: law", x.many(3), 0);
        due("2 anew: log", x.many(5), 0);
        due("2 anew: order", x.ofSpeaker(0, 2), 0);
        due("2 anew: words", x.ofSpeaker(1, 1), 2);
        due("2 anew: trace stays", x.trace(), trace);
        due("2 anew: sheets stay", x.cell(2, 2, 2), -9);
        due("2 anew: speaks", x.says(1), 0);
        x.put(3, 2, '1');
        due("2 a sheet put later", x.many(1), 20);
        due("2 fewer", Checks.council(x, SCARCE), 2);
        due("2 fewer speakers", x.ofSpeaker(2, 0), -1);
        due("2 fewer words", x.ofWord(1, 1, 0), -1);
    }

    private void promises3And4() {
        JarCouncil x = Checks.of(THREE);
        int[][] speakers = {{0, 1, 0}, {1, 2, 1}, {2, 1, 2}};
        for (int k = 0; k < 3; k++) {
            for (int what = 0; what < 3; what++) {
                due("3 " + k + " " + what, x.ofSpeaker(k, what), speakers[k][what]);
            }
        }
        x.swap(0, 2);
        due("3 place of 0", x.ofSpeaker(0, 2), 2);
        due("3 place of 2", x.ofSpeaker(2, 2), 0);
        due("3 no speaker", x.ofSpeaker(3, 9), -1);
        due("3 no speaker -1", x.ofSpeaker(-1, 0), -1);
        due("3 what 3", x.ofSpeaker(0, 3), -2);
        due("3 what -1", x.ofSpeaker(0, -1), -2);
        due("4 length", x.ofWord(1, 1, 0), 10);
        due("4 own", x.ofWord(1, 0, 1), 9);
        due("4 others", x.ofWord(1, 0, 2), 2);
        due("4 no speaker", x.ofWord(3, 0, 9), -1);
        due("4 no word", x.ofWord(0, 1, 9), -1);
        due("4 no word -1", x.ofWord(0, -1, 0), -1);
        due("4 what 3", x.ofWord(0, 0, 3), -2);
        due("4 what -1", x.ofWord(0, 0, -1), -2);
    }

    private void promise5() {
        JarCouncil x = new JarCouncil();
        due("5 no council", x.law(0), -3);
        due("5 no such law", x.law(4), -2);
        due("5 no such law -1", x.law(-1), -2);
        Checks.council(x, THREE);
        for (int v = 1; v < 4; v++) {
            due("5 was", x.law(v), v - 1);
            due("5 is", x.many(3), v);
        }
        due("5 the same", x.law(3), 3);
        due("5 no such law", x.law(4), -2);
        due("5 stays", x.many(3), 3);
    }

    private void promise6() {
        JarCouncil x = new JarCouncil();
        due("6 no council", x.swap(0, 0), -1);
        Checks.council(x, THREE);
        due("6 no speaker", x.swap(0, 3), -1);
        due("6 no speaker", x.swap(-1, 0), -1);
        due("6 two", x.swap(0, 1), 1);
        due("6 two", x.swap(2, 0), 1);
        due("6 place of 0", x.ofSpeaker(0, 2), 2);
        due("6 place of 1", x.ofSpeaker(1, 2), 0);
        due("6 place of 2", x.ofSpeaker(2, 2), 1);
        due("6 one", x.swap(1, 1), 1);
        due("6 place of 1", x.ofSpeaker(1, 2), 0);
    }

    // ---- 2 days told

    private void daysTold() {
        promise7();
        promise7Laws();
        promise7Refusals();
        promise8();
    }

    private void judged(String what, JarCouncil x, int n, int heard, int cut, int water) {
        due(what + ": heard", x.judge(2, 2, 0, n, 0), heard);
        due(what + ": cut off", x.judge(2, 2, 0, n, 1), cut);
        due(what + ": water", x.judge(2, 2, 0, n, 2), water);
        due(what + ": no fault", x.fault(), 0);
    }

    private void promise7() {
        JarCouncil x = Checks.of(LOGGED);
        Checks.row(x, 2, 0, 0, 0);
        judged("7 none told", x, 0, 0, -9, 40);
        judged("7 one told", x, 1, 1, -9, 27);
        judged("7 two told", x, 2, 2, -9, 16);
        judged("7 the third is cut off", x, 3, 2, 2, 0);
        Checks.row(x, 2, -9, 0, -9);
        judged("7 nothing is said", x, 3, 1, -9, 23);
        x = Checks.of("j10;l0;pw1011;pw1111;pw0111");
        Checks.row(x, 2, 0, 0, 0);
        judged("7 all water is enough", x, 1, 1, -9, 0);
        judged("7 two are cut off", x, 3, 1, 1, 0);
        Checks.row(x, 2, -9, 0, -9);
        judged("7 he who is cut off empties the jar", x, 2, 0, 1, 0);
    }

    private void promise7Laws() {
        JarCouncil x = Checks.of(LOGGED);
        Checks.row(x, 2, 0, 0, 0, 0);
        x.law(1);
        judged("7 law 1, none told", x, 0, 0, -9, 13);
        judged("7 law 1", x, 2, 2, -9, 13);
        judged("7 law 1, cut off", x, 3, 2, 2, 13);
        due("7 law 1 has three turns", x.judge(2, 2, 0, 4, 0), -2);
        x.law(2);
        judged("7 law 2", x, 1, 1, -9, 13);
        judged("7 law 2, two", x, 2, 2, -9, 1);
        x.law(3);
        judged("7 law 3", x, 2, 2, -9, 16);
        Checks.row(x, 2, 0, 0, -9, 0);
        judged("7 law 3, four turns", x, 4, 3, -9, 0);
        due("7 law 3 has four turns", x.judge(2, 2, 0, 5, 0), -13);
        x = Checks.of(LOGGED);
        x.law(3);
        x.swap(0, 1);
        Checks.row(x, 2, 0, -9, -9, 0, 0);
        judged("7 law 3, place 0 again", x, 4, 2, -9, 12);
        due("7 law 3, five told", x.judge(2, 2, 0, 5, 0), -2);
    }

    private void promise7Refusals() {
        JarCouncil x = new JarCouncil();
        due("7 sheet", x.judge(4, 3, -1, -1, 9), -1);
        due("7 lane", x.judge(2, 3, -1, -1, 9), -2);
        due("7 nothing", x.judge(2, 0, -1, -1, 9), -11);
        x.sheet(2, 2, 5);
        due("7 cast", x.judge(2, 0, -1, -1, 9), -12);
        due("7 cast's fault", x.fault(), 2);
        due("7 size", x.judge(2, 2, -1, -1, 9), -14);
        due("7 index", x.judge(2, 2, 5, 1, 9), -13);
        due("7 index's fault", x.fault(), 3);
        due("7 no council", x.judge(2, 2, 0, 5, 9), -3);
        due("7 no fault", x.fault(), 0);
        Checks.council(x, LOGGED);
        Checks.row(x, 2, 7, 0, 0, 0, 0);
        due("7 too many", x.judge(2, 2, 0, 4, 9), -2);
        due("7 no word", x.judge(2, 2, 0, 3, 9), -1);
        due("7 what 9", x.judge(2, 2, 1, 3, 9), -2);
        due("7 what -1", x.judge(2, 2, 1, 3, -1), -2);
        due("7 none told, what 3", x.judge(2, 2, 5, 0, 3), -2);
        Checks.row(x, 2, -1, -8, -10);
        due("7 word -1", x.judge(2, 2, 0, 1, 0), -1);
        due("7 word -8", x.judge(2, 2, 1, 1, 0), -1);
        due("7 word -10", x.judge(2, 2, 2, 1, 0), -1);
        x.sheet(2, 0, 3);
        x.put(2, 0, -9);
        due("7 bytes", x.judge(2, 0, 0, 3, 0), 2);
    }

    private void promise8() {
        JarCouncil x = Checks.of(LOGGED);
        Checks.row(x, 2, 0, 0, 0, 9);
        due("8 worth to 0", x.worthOf(2, 2, 0, 3, 0), 7);
        due("8 worth to 1", x.worthOf(2, 2, 0, 3, 1), 7);
        due("8 worth to 2", x.worthOf(2, 2, 0, 3, 2), 3);
        due("8 none told", x.worthOf(2, 2, 0, 0, 1), 0);
        due("8 no speaker", x.worthOf(2, 2, 0, 3, 3), -1);
        due("8 no speaker -1", x.worthOf(2, 2, 0, 3, -1), -1);
        due("8 too many", x.worthOf(2, 2, 0, 4, 9), -2);
        due("8 index", x.worthOf(2, 2, 1, 4, 9), -13);
        due("8 index's fault", x.fault(), 3);
        due("8 no word", x.worthOf(2, 2, 3, 1, 0), -1);
        due("8 no fault", x.fault(), 0);
        x.law(3);
        Checks.row(x, 2, 0, -9, -9, 0);
        due("8 own twice", x.worthOf(2, 2, 0, 4, 0), 10);
        due("8 others twice", x.worthOf(2, 2, 0, 4, 2), 2);
        due("8 no council", new JarCouncil().worthOf(0, 0, 0, 0, 0), -11);
        JarCouncil y = new JarCouncil();
        y.sheet(0, 0, 0);
        due("8 no council", y.worthOf(0, 0, 0, 0, 0), -3);
    }

    // ---- 3 for himself, together

    private void forHimself() {
        promise9();
        promises10To12();
        promise13();
    }

    private void promise9() {
        JarCouncil x = Checks.of("j30;l0;pw0500w0700w0700;tw0500w0700;tw0931w0831w0831;ow0199");
        due("9 a plain one: the longest", x.choice(0, 30), 1);
        due("9 a plain one: heard", x.choice(0, 6), 0);
        due("9 a plain one: none is heard", x.choice(0, 4), -9);
        due("9 a thrifty one: nothing", x.choice(1, 30), -9);
        due("9 a thrifty one: the shortest", x.choice(2, 30), 1);
        due("9 an old one: nothing", x.choice(3, 30), -9);
        due("9 no water", x.choice(0, 0), -9);
        due("9 turn 4", x.choice(4, -1), -1);
        due("9 turn -1", x.choice(-1, 0), -1);
        due("9 water -1", x.choice(0, -1), -2);
        due("9 water 31", x.choice(0, 31), -2);
        due("9 no council", new JarCouncil().choice(0, 0), -1);
        x.law(3);
        due("9 the turn at the end", x.choice(4, 6), 0);
        x = Checks.of("j20;l0;pw1020;pw1019");
        due("9 what comes behind counts: both", x.choice(0, 20), 0);
        due("9 what comes behind counts: he waits", x.choice(0, 19), -9);
        due("9 too little for two, none to wait for", x.choice(1, 19), 0);
        x.law(1);
        due("9 law 1: all levels", x.choice(0, 20), 0);
        due("9 law 1: none waits", x.choice(0, 10), 0);
    }

    private void promises10To12() {
        JarCouncil x = Checks.of(THREE);
        int[][] says = {{0, 0, -9}, {0, 0, -9}, {0, 0, -9}, {0, 0, -9, 0}};
        int[][] waters = {{20, 14, 8}, {6, 6, 6}, {20, 7, 0}, {20, 14, 8, 7}};
        int[][] worths = {{7, 12, 5}, {7, 12, 5}, {7, 12, 5}, {12, 15, 8}};
        for (int v = 0; v < 4; v++) {
            x.law(v);
            for (int turn = 0; turn < says[v].length; turn++) {
                due("10 law " + v, x.says(turn), says[v][turn]);
                due("11 law " + v, x.water(turn), waters[v][turn]);
            }
            for (int k = 0; k < 3; k++) {
                due("12 law " + v, x.worth(k), worths[v][k]);
            }
            due("10 no turn", x.says(says[v].length), -1);
            due("11 no turn", x.water(says[v].length), -1);
        }
        x.law(0);
        x.swap(0, 1);
        due("10 another first", x.says(0), 0);
        due("11 another first", x.water(1), 14);
        due("10 no turn -1", x.says(-1), -1);
        due("11 no turn -1", x.water(-1), -1);
        due("12 no speaker", x.worth(3), -1);
        due("12 no speaker -1", x.worth(-1), -1);
        due("10 no council", new JarCouncil().says(0), -1);
        due("11 no council", new JarCouncil().water(0), -1);
        due("12 no council", new JarCouncil().worth(0), -1);
    }

    private void promise13() {
        JarCouncil x = Checks.of("j10;l0;pw0611;pw0692");
        due("13 worth to all", x.together(-1), 11);
        due("13 he who is worth less waits", x.together(0), -9);
        due("13 the other one speaks", x.together(1), 0);
        due("13 turn 2", x.together(2), -1);
        due("13 -2", x.together(-2), -1);
        x = Checks.of("j10;l0;pw0611;ow0692");
        due("13 old ones, too", x.together(1), 0);
        x = Checks.of("j10;l0;pw0211w0311w0411;ow0611w0211");
        due("13 the first row", x.together(0), 0);
        due("13 of even ones the first", x.together(1), 0);
        x = Checks.of("j10;l0;pw0500w0111;tw0900");
        due("13 the dearer word", x.together(0), 1);
        due("13 nothing comes behind a word", x.together(1), 0);
        x = Checks.of("j09;l0;tw0500;tw0500");
        due("13 words of no worth: none", x.together(-1), 0);
        due("13 words of no worth: said", x.together(0), 0);
        due("13 nobody is cut off", x.together(1), -9);
        x.law(3);
        due("13 the turn at the end", x.together(2), -9);
        due("13 turn 3", x.together(3), -1);
        due("13 no council, no turn", new JarCouncil().together(0), -1);
        due("13 no council", new JarCouncil().together(-1), -3);
    }

    // ---- 4 thanks, orders

    private void thanksAndOrders() {
        promises14And15();
        promise16();
        promise17();
    }

    private void promises14And15() {
        JarCouncil x = Checks.of("j10;l0;pw0811;pw0592");
        due("14 he leaves some", x.owed(0, 1), 8);
        due("14 the last one", x.owed(1, 0), 2 - 0 - 4);
        due("15 he leaves it anyway", x.bargain(0, 1), 0);
        x = Checks.of("j10;l0;pw0851;pw0592");
        due("14 he'd rather speak", x.owed(0, 1), 8);
        due("15 he'd rather speak", x.bargain(0, 1), 5);
        due("14 himself", x.owed(0, 0), LOST);
        due("15 himself", x.bargain(1, 1), LOST);
        due("14 no speaker", x.owed(0, 2), LOST);
        due("14 no speaker", x.owed(-1, 1), LOST);
        due("15 no speaker", x.bargain(2, 0), LOST);
        due("15 no speaker", x.bargain(0, -1), LOST);
        x = Checks.of("j20;l0;pw0815w0829;tw0111");
        due("14 of the longest the least", x.owed(0, 1), -5);
        x = Checks.of("j20;l0;pw0819w0921w2199;tw0111");
        due("14 the longest that is heard", x.owed(0, 1), -1);
        x = Checks.of("j10;l0;ow0811;pw0592");
        due("14 an old one", x.owed(0, 1), 8);
        due("15 an old one", x.bargain(0, 1), 0);
        x = Checks.of("j05;l0;pw0611;pw0511");
        due("14 none is heard", x.owed(0, 1), 0);
        due("14 no council", new JarCouncil().owed(0, 1), LOST);
        due("15 no council", new JarCouncil().bargain(0, 1), LOST);
        x = Checks.of("j10;l0;pw0891;pw0592");
        x.law(3);
        due("14 his first turn alone", x.owed(0, 1), 9 - 1);
        x.swap(0, 1);
        due("14 his turn by the order", x.owed(0, 1), 0);
    }

    private void promise16() {
        JarCouncil x = Checks.of(SCARCE);
        due("16 now", x.motion(0, 0, -1), 0);
        due("16 now, place 0", x.motion(0, 0, 0), 0);
        due("16 two change", x.motion(1, 0, -1), 2);
        due("16 two change, place 0", x.motion(1, 0, 0), 1);
        due("16 two change, place 1", x.motion(1, 0, 1), 0);
        x.swap(0, 1);
        due("16 now as it is", x.motion(1, 0, -1), 0);
        due("16 now as it is", x.motion(0, 0, 0), 0);
        x.law(1);
        due("16 none", x.motion(0, 0, -1), -9);
        due("16 none, place 1", x.motion(0, 0, 1), -9);
        due("16 p 2", x.motion(0, 0, 2), -1);
        due("16 p -2", x.motion(0, 0, -2), -1);
        due("16 no word", x.motion(0, 1, 0), -1);
        due("16 no speaker", x.motion(2, 0, 0), -1);
        due("16 no council", new JarCouncil().motion(0, 0, -1), -1);
        x = Checks.of("j10;l0;pw0691;pw0691;pw0691");
        due("16 the fewest", x.motion(2, 0, -1), 2);
        due("16 the fewest", x.motion(2, 0, 0), 2);
        due("16 the fewest", x.motion(2, 0, 1), 1);
        due("16 the fewest", x.motion(2, 0, 2), 0);
        x = Checks.of("j12;l0;pw0691;pw0691;pw0691");
        due("16 of several the first", x.motion(2, 0, -1), 2);
        due("16 of several the first", x.motion(2, 0, 0), 0);
        due("16 of several the first", x.motion(2, 0, 1), 2);
        due("16 of several the first", x.motion(2, 0, 2), 1);
        x = Checks.of("j10;l0;pw0691;ow0111");
        due("16 an old one", x.motion(1, 0, -1), -9);
        due("16 changes nothing", x.ofSpeaker(0, 2), 0);
    }

    private void promise17() {
        JarCouncil x = Checks.of("j10;l0;pw6011;pw0511");
        due("17 by a word that is cut off", x.dry(1, 0), 1);
        due("17 he doesn't say it anyway", x.dry(0, 0), 2);
        due("17 no word", x.dry(0, 1), -1);
        due("17 no speaker", x.dry(2, 0), -1);
        due("17 no council", new JarCouncil().dry(0, 0), -1);
        x.law(1);
        due("17 law 1: each has his own water", x.dry(1, 0), 0);
        x = Checks.of("j10;l0;pw0519;pw0519w0991");
        due("17 by nothing", x.dry(1, 0), 1);
        x = Checks.of("j60;l0;pw0191;pw0591;ow0199w5611");
        due("17 those behind can't", x.dry(0, 0), 0);
        due("17 short words don't", x.dry(1, 0), 0);
        x.swap(0, 2);
        due("17 an old one, too", x.dry(1, 0), 4);
        x = Checks.of("j20;l0;pw0691;ow2011;ow2011");
        x.law(3);
        due("17 his other turn", x.dry(0, 0), 0);
        x.swap(0, 1);
        due("17 both of them", x.dry(0, 0), 2);
    }

    // ---- 5 the log, laws, shares

    private void logLawsShares() {
        promise18();
        promise18Refusals();
        promise19();
        promise20();
        promise21();
        promise22();
    }

    private void promise18() {
        JarCouncil x = Checks.of(LOGGED);
        Checks.row(x, 2, 9, -9, -9, -9);
        for (int d = 0; d < 6; d++) {
            due("18 its number", x.day(2, 2, 1, 31), d);
            due("18 how many", x.many(5), d + 1);
        }
        due("18 full", x.day(2, 2, 1, 31), -4);
        due("18 full: no fault", x.fault(), 0);
        due("18 the end ahead of full", x.day(2, 2, 1, 100), -2);
        due("18 still six", x.many(5), 6);
        x.swap(0, 1);
        due("18 swap: no log", x.many(5), 0);
        due("18 anew", x.day(2, 2, 1, 31), 0);
        x.law(0);
        due("18 law: no log", x.many(5), 0);
        due("18 anew", x.day(2, 2, 1, 99), 0);
        x.law(4);
        x.swap(0, 3);
        due("18 refused: the log stays", x.many(5), 1);
        x.law(3);
        due("18 law 3 has one turn more", x.day(2, 2, 1, 0), -13);
        due("18 law 3's fault", x.fault(), 3);
    }

    private void promise18Refusals() {
        JarCouncil x = new JarCouncil();
        due("18 sheet", x.day(-1, 3, -1, -1), -1);
        due("18 lane", x.day(0, 3, -1, -1), -2);
        due("18 nothing", x.day(0, 0, -1, -1), -11);
        x.sheet(0, 0, 4);
        due("18 cast", x.day(0, 1, -1, -1), -12);
        due("18 index", x.day(0, 0, -1, -1), -13);
        due("18 index of no cells", x.day(0, 0, 5, -1), -13);
        due("18 no council", x.day(0, 0, 4, -1), -3);
        due("18 no fault", x.fault(), 0);
        Checks.council(x, LOGGED);
        due("18 index of three cells", x.day(0, 0, 2, -1), -13);
        x.put(0, 0, 1);
        due("18 no word", x.day(0, 0, 0, -1), -1);
        due("18 end -1", x.day(0, 0, 1, -1), -2);
        due("18 end 100", x.day(0, 0, 1, 100), -2);
        due("18 end 0", x.day(0, 0, 1, 0), 0);
    }

    private void promise19() {
        JarCouncil x = new JarCouncil();
        due("19 none of none", x.back(0), 0);
        due("19 one of none", x.back(1), -2);
        Checks.council(x, LOGGED);
        Checks.row(x, 2, -9, -9, -9);
        x.day(2, 2, 0, 40);
        x.day(2, 2, 0, 34);
        x.day(2, 2, 0, 33);
        due("19 -1", x.back(-1), -2);
        due("19 four of three", x.back(4), -2);
        due("19 one of three", x.back(1), 2);
        due("19 the last one is gone", x.guess(1), 12);
        due("19 none", x.back(0), 2);
        due("19 the next one's number", x.day(2, 2, 0, 34), 2);
        due("19 all", x.back(3), 0);
    }

    private void promise20() {
        JarCouncil x = new JarCouncil();
        due("20 what 2", x.guess(2), -2);
        due("20 what -1", x.guess(-1), -2);
        due("20 no council", x.guess(0), -3);
        Checks.council(x, LOGGED);
        due("20 no days", x.guess(0), 10);
        due("20 no days: the first", x.guess(1), 0);
        Checks.row(x, 2, -9, -9, -9, 0, 0, 0);
        x.day(2, 2, 0, 40);
        due("20 no leak: at once, or later any", x.guess(0), 11);
        due("20 no leak: the first", x.guess(1), 0);
        x.day(2, 2, 0, 34);
        due("20 it leaks since day 1", x.guess(0), 1);
        due("20 it leaks since day 1", x.guess(1), 12);
        x.day(2, 2, 0, 40);
        due("20 none", x.guess(0), 0);
        due("20 none", x.guess(1), -9);
        x.back(3);
        x.day(2, 2, 3, 0);
        due("20 cut off by any leak", x.guess(0), 9);
        due("20 the first", x.guess(1), 1);
        x.law(1);
        x.day(2, 2, 0, 13);
        x.day(2, 2, 3, 13);
        due("20 law 1: all pairs", x.guess(0), 30);
        x.law(2);
        x.day(2, 2, 0, 3);
        due("20 law 2: halves are cut", x.guess(0), 1);
        due("20 law 2: the first", x.guess(1), 2);
        due("20 the leak stays", x.many(2), 3);
    }

    private void promise21() {
        JarCouncil x = new JarCouncil();
        due("21 -2", x.byLaw(-2), -2);
        due("21 4", x.byLaw(4), -2);
        due("21 no council", x.byLaw(-1), -3);
        worthsByLaws("j10;l0;pw0691;pw0691", 10, 0, 10, 10, 0);
        worthsByLaws("j20;l0;pw0691;pw0691", 20, 20, 20, 30, 3);
        worthsByLaws("j18;l9;pw0691;pw0691;pw0691", 11, 33, 11, 11, 1);
        worthsByLaws("j24;l9;pw0920;pw0719w0600", 10, 12, 10, 10, 1);
        x = Checks.of("j07;l0;pw0691;pw0721");
        due("21 by the order", x.byLaw(0), 10);
        x.swap(0, 1);
        due("21 by the other order", x.byLaw(0), 3);
    }

    private void worthsByLaws(String text, int a, int b, int c, int d, int best) {
        JarCouncil x = Checks.of(text);
        int[] worths = {a, b, c, d};
        x.law(2);
        for (int v = 0; v < 4; v++) {
            due("21 " + text + " by law " + v, x.byLaw(v), worths[v]);
        }
        due("21 best of " + text, x.byLaw(-1), best);
        due("21 the law stays", x.many(3), 2);
    }

    private void promise22() {
        JarCouncil x = Checks.of(SCARCE);
        due("22 upper", x.share(0, 0), 3);
        due("22 lower", x.share(0, 1), 5);
        due("22 nothing, upper", x.share(1, 0), 0);
        due("22 nothing, lower", x.share(1, 1), 1);
        due("22 no speaker", x.share(2, 0), LOST);
        due("22 no speaker -1", x.share(-1, 0), LOST);
        due("22 which 2", x.share(0, 2), LOST);
        due("22 which -1", x.share(0, -1), LOST);
        due("22 no council", new JarCouncil().share(0, 0), LOST);
        x = Checks.of("j20;l0;pw0691;pw0791");
        x.law(3);
        due("22 both of his turns, upper", x.share(0, 0), 3);
        due("22 both of his turns, lower", x.share(0, 1), 5);
        due("22 no common part, upper", x.share(1, 0), 7);
        due("22 no common part, lower", x.share(1, 1), 20);
        x = Checks.of("j20;l0;pw2091;pw0791");
        due("22 all, upper", x.share(0, 0), 1);
        due("22 all, lower", x.share(0, 1), 1);
    }

    // ---- 6 sheets, parts

    private void sheetsAndParts() {
        promises23And24();
        promises25And26();
        promise27();
        promises28To31();
        promise32();
        promise33();
    }

    private void promises23And24() {
        JarCouncil x = new JarCouncil();
        due("23 sheet 4", x.sheet(4, 3, -1), -1);
        due("23 lane 3", x.sheet(0, 3, -1), -2);
        due("23 n 101", x.sheet(0, 0, 101), -2);
        due("23 refused: no fault", x.fault(), 0);
        due("23 n -1", x.sheet(0, 0, -1), -14);
        due("23 its fault", x.fault(), 4);
        due("23 still nothing", x.lose(0), 0);
        due("23 n 100", x.sheet(0, 0, 100), 1);
        due("23 no fault", x.fault(), 0);
        due("23 the last cell", x.put(0, 99, 5), 1);
        due("23 refused", x.sheet(0, 1, -1), -14);
        due("23 refused: it stays", x.cell(0, 99, 0), 5);
        due("23 a new row", x.sheet(0, 0, 100), 1);
        due("23 zeros", x.cell(0, 99, 0), 0);
        due("23 another lane", x.sheet(0, 2, 0), 1);
        due("23 no cells", x.put(0, 0, 1), -13);
        due("24 sheet 4", x.lose(4), -1);
        due("24 sheet -1", x.lose(-1), -1);
        due("24 it had", x.lose(0), 1);
        due("24 it had not", x.lose(0), 0);
        due("24 nothing", x.put(0, 0, 1), -11);
    }

    private void promises25And26() {
        JarCouncil x = new JarCouncil();
        int[] values = {127, 128, -129, 32768, -32769, 70001, Integer.MIN_VALUE};
        for (int lane = 0; lane < 3; lane++) {
            x.sheet(lane, lane, 2);
            for (int v : values) {
                due("25 put", x.put(lane, 1, v), 1);
                due("26 cut", x.cell(lane, 1, lane), lane == 0 ? (byte) v : lane == 1 ? (short) v : v);
            }
            due("26 the other cell", x.cell(lane, 0, lane), 0);
        }
        due("25 sheet", x.put(4, -1, 0), -1);
        due("25 nothing", x.put(3, -1, 0), -11);
        due("25 its fault", x.fault(), 1);
        due("25 index 2", x.put(0, 2, 0), -13);
        due("25 index -1", x.put(0, -1, 0), -13);
        due("26 index -1", x.cell(0, -1, 0), LOST);
        due("26 its fault", x.fault(), 3);
        due("26 index 2", x.cell(0, 2, 0), LOST);
        due("26 cast", x.cell(0, 2, 1), LOST);
        due("26 its fault", x.fault(), 2);
        due("26 lane", x.cell(3, 2, 3), LOST);
        due("26 no fault", x.fault(), 0);
        due("26 nothing is no cast", x.cell(3, -1, 1), LOST);
        due("26 its fault", x.fault(), 1);
        due("26 sheet", x.cell(4, 0, 0), LOST);
        due("26 no fault", x.fault(), 0);
    }

    private void promise27() {
        JarCouncil x = new JarCouncil();
        Checks.row(x, 0, 1, 2, 3, 4, 5);
        Checks.row(x, 1, 0, 0, 0);
        x.sheet(2, 1, 5);
        due("27 sheet", x.copy(0, -1, 4, -1, -1), -1);
        due("27 sheet", x.copy(-1, -1, 0, -1, -1), -1);
        due("27 nothing", x.copy(3, -1, 0, -1, -1), -11);
        due("27 nothing", x.copy(0, -1, 3, -1, -1), -11);
        due("27 its fault", x.fault(), 1);
        due("27 cast", x.copy(0, -1, 2, -1, -1), -12);
        due("27 its fault", x.fault(), 2);
        due("27 i -1", x.copy(0, -1, 1, 0, 1), -13);
        due("27 j -1", x.copy(0, 0, 1, -1, 1), -13);
        due("27 n -1", x.copy(0, 0, 1, 0, -1), -13);
        due("27 beyond", x.copy(0, 3, 1, 0, 3), -13);
        due("27 beyond the other", x.copy(0, 0, 1, 1, 3), -13);
        due("27 i far beyond", x.copy(0, 6, 1, 0, 0), -13);
        due("27 j far beyond", x.copy(0, 0, 1, 4, 0), -13);
        due("27 n wraps", x.copy(0, 1, 1, 1, Integer.MAX_VALUE), -13);
        due("27 its fault", x.fault(), 3);
        due("27 none at the end", x.copy(0, 5, 1, 3, 0), 0);
        due("27 no fault", x.fault(), 0);
        due("27 two", x.copy(0, 3, 1, 1, 2), 2);
        rowIs("27 the other", x, 1, 0, 4, 5);
        due("27 up in itself", x.copy(0, 0, 0, 1, 4), 4);
        rowIs("27 up in itself", x, 0, 1, 1, 2, 3, 4);
        due("27 down in itself", x.copy(0, 1, 0, 0, 4), 4);
        rowIs("27 down in itself", x, 0, 1, 2, 3, 4, 4);
    }

    private void rowIs(String what, JarCouncil x, int sheet, int... cells) {
        for (int i = 0; i < cells.length; i++) {
            due(what + " " + i, x.cell(sheet, i, 2), cells[i]);
        }
    }

    private void promises28To31() {
        JarCouncil x = Checks.of(THREE);
        due("28 plain", x.tell(0), 1);
        due("31 plain", x.trace(), 1);
        due("28 thrifty", x.tell(1), 102);
        due("31 thrifty", x.trace(), (1 * 31 + 2) * 31 + 1);
        due("28 no speaker", x.tell(3), -1);
        due("29 no speaker", x.call(-1), -1);
        due("31 refused", x.trace(), 1024);
        x = Checks.of(THREE);
        due("28 old", x.tell(2), 102);
        due("31 old", x.trace(), ((3 * 31 + 2) * 31 + 1) * 31 + 1);
        x = Checks.of(THREE);
        due("29 lent", x.call(1), 1);
        due("29 old", x.call(2), 90);
        due("31 calls", x.trace(), 4 * 31 + 5);
        int trace = x.trace();
        for (int i = 0; i < 20; i++) {
            x.call(0);
            trace = trace * 31 + 4;
        }
        due("31 wraps", x.trace(), trace);
        for (int kind = 0; kind < 3; kind++) {
            for (int k = 0; k < 3; k++) {
                due("30 " + k + " as " + kind, x.as(k, kind), kind <= k ? 1 : -12);
                due("30 fault", x.fault(), kind <= k ? 0 : 2);
            }
        }
        due("30 no speaker", x.as(3, 3), -1);
        due("30 no kind", x.as(0, 3), -2);
        due("30 no kind -1", x.as(2, -1), -2);
        due("28 no council", new JarCouncil().tell(0), -1);
        due("30 no council", new JarCouncil().as(0, 0), -1);
    }

    private void promise32() {
        JarCouncil x = Checks.of(THREE);
        due("32 none", x.fault(), 0);
        x.put(0, 0, 0);
        due("32 nothing", x.fault(), 1);
        x.lose(0);
        x.back(9);
        x.law(9);
        x.tell(0);
        x.many(9);
        x.owed(0, 0);
        x.trace();
        x.guess(9);
        due("32 calls that name none", x.fault(), 1);
        due("32 again", x.fault(), 1);
        x.sheet(0, 9, 0);
        due("32 refused", x.fault(), 0);
        x.sheet(0, 0, -5);
        due("32 size", x.fault(), 4);
        x.put(9, 0, 0);
        due("32 put refused", x.fault(), 0);
        x.as(0, 1);
        due("32 cast", x.fault(), 2);
        x.as(9, 1);
        due("32 as refused", x.fault(), 0);
        x.sheet(0, 0, 0);
        x.judge(0, 0, 1, 0, 0);
        due("32 index", x.fault(), 3);
        x.judge(0, 0, 0, 0, 0);
        due("32 came to none", x.fault(), 0);
        x.worthOf(0, 0, 0, -1, 0);
        due("32 size", x.fault(), 4);
        x.copy(0, 0, 9, 0, 0);
        due("32 copy refused", x.fault(), 0);
        x.day(0, 0, 0, 0);
        due("32 day", x.fault(), 3);
    }

    private void promise33() {
        JarCouncil x = Checks.of(LOGGED);
        x.law(3);
        Checks.row(x, 0, -9, -9, -9, -9);
        x.day(0, 2, 0, 0);
        x.day(0, 2, 0, 0);
        int[] due = {3, 40, 3, 3, 4, 2};
        for (int what = 0; what < 6; what++) {
            due("33 " + what, x.many(what), due[what]);
        }
        due("33 6", x.many(6), -2);
        due("33 -1", x.many(-1), -2);
        x.law(2);
        due("33 turns", x.many(4), 3);
        due("33 no council, 6", new JarCouncil().many(6), -2);
    }
}
