/**
 * Each refusal and each fault of each call, as the document's line of the call tells them: what is
 * answered when all that is told later in the line is wrong, too; what fault() then tells; and that
 * nothing else has changed.
 */
public final class RefusalTest {
    private static final long LOST = Long.MIN_VALUE;
    private static final int MOST = Integer.MAX_VALUE, LEAST = Integer.MIN_VALUE;
    /** What fault() tells behind a call that names no faults: what it told ahead of it. */
    private static final int AS_IT_WAS = -1;

    private final Checks checks = new Checks("RefusalTest");
    private boolean withCouncil = true;

    private interface Call {
        long of(JarCouncil x);
    }

    public static void main(String[] args) {
        RefusalTest test = new RefusalTest();
        test.council();
        test.ofSpeakersAndWords();
        test.daysTold();
        test.forHimself();
        test.thanksAndOrders();
        test.logLawsShares();
        test.sheets();
        test.parts();
        test.withCouncil = false;
        test.withoutCouncil();
        test.sheetsWithoutCouncil();
        test.checks.finish();
    }

    // ---- the trial

    /**
     * SHEET 0: 3 bytes; 1: nothing; 2: 4 ints, a row of words; 3: ints, a text. With a COUNCIL: a
     * PLAIN, a THRIFTY, an OLD one by LAW 3, in the order 2, 1, 0, two DAYS in the LOG.
     */
    private JarCouncil setting(int fault) {
        JarCouncil x = new JarCouncil();
        String text = "j20;l1;pw0553;tw0592w1099;ow0199";
        if (withCouncil) {
            Checks.council(x, text);
            x.law(3);
            x.swap(0, 2);
            x.tell(2);
        } else {
            x.sheet(3, 2, text.length());
        }
        Checks.row(x, 2, -9, 0, -9, -9);
        x.day(2, 2, 0, 16);
        x.day(2, 2, 0, 3);
        x.sheet(0, 0, 3);
        x.put(0, 1, 7);
        comeTo(x, fault);
        return x;
    }

    private static void comeTo(JarCouncil x, int fault) {
        if (fault == 4) {
            x.sheet(0, 0, -1);
        } else if (fault == 1) {
            x.put(1, 0, 0);
        }
    }

    /** All that can be asked, the fault first. */
    private String state(JarCouncil x, boolean withFault) {
        StringBuilder all = new StringBuilder();
        int fault = x.fault();
        all.append(withFault ? fault : AS_IT_WAS).append(" trace ").append(x.trace()).append(" many");
        for (int what = 0; what < 6; what++) {
            all.append(' ').append(x.many(what));
        }
        for (int k = 0; k < 3; k++) {
            all.append(" speaker ").append(x.ofSpeaker(k, 0)).append(' ').append(x.ofSpeaker(k, 2));
            for (int q = 0; q < 3; q++) {
                all.append(" word ").append(x.ofWord(k, q, 0)).append(' ').append(x.ofWord(k, q, 2));
            }
        }
        for (int turn = 0; turn < 4; turn++) {
            all.append(" turn ").append(x.says(turn)).append(' ').append(x.water(turn));
        }
        all.append(" guess ").append(x.guess(0)).append(' ').append(x.guess(1));
        for (int i = 0; i < 5; i++) {
            all.append(" cells ").append(x.cell(0, i, 0)).append(' ').append(x.cell(2, i, 2));
            all.append(' ').append(x.cell(3, i, 2));
        }
        return all.append(" lost ").append(x.lose(1)).toString();
    }

    private void refused(String what, long due, int fault, Call call) {
        for (int before : new int[] {0, 1, 4}) {
            JarCouncil x = setting(before);
            checks.due(what + ": the fault ahead of it", x.fault(), before);
            checks.due(what, call.of(x), due);
            checks.due(what + ": fault()", x.fault(), fault == AS_IT_WAS ? before : fault);
            boolean same = state(x, false).equals(state(setting(before), false));
            checks.due(what + ": changes nothing", same ? 1 : 0, 1);
        }
    }

    private void refused(String what, long due, Call call) {
        refused(what, due, AS_IT_WAS, call);
    }

    // ---- 1 the council

    private void council() {
        refused("2 sheet -1", -1, 0, x -> x.council(-1, 3, -1, -1));
        refused("2 sheet 4", -1, 0, x -> x.council(4, 3, -1, -1));
        refused("2 lane -1", -2, 0, x -> x.council(1, -1, -1, -1));
        refused("2 lane 3", -2, 0, x -> x.council(0, 3, -1, -1));
        refused("2 cast: shorts", -12, 2, x -> x.council(0, 1, -1, -1));
        refused("2 cast: ints", -12, 2, x -> x.council(0, 2, -1, -1));
        refused("2 cast: bytes", -12, 2, x -> x.council(3, 0, -1, -1));
        refused("2 nothing is no cast", -11, 1, x -> x.council(1, 0, -1, -1));
        refused("2 nothing", -11, 1, x -> x.council(1, 2, 0, 0));
        refused("2 size -1", -14, 4, x -> x.council(0, 0, -1, -1));
        refused("2 size, the least", -14, 4, x -> x.council(0, 0, 0, LEAST));
        refused("2 index -1", -13, 3, x -> x.council(0, 0, -1, 1));
        refused("2 index -1 of no cells", -13, 3, x -> x.council(0, 0, -1, 0));
        refused("2 index 4 of no cells", -13, 3, x -> x.council(0, 0, 4, 0));
        refused("2 index: one too many", -13, 3, x -> x.council(0, 0, 0, 4));
        refused("2 index: one too far", -13, 3, x -> x.council(0, 0, 3, 1));
        refused("2 index: the sum wraps", -13, 3, x -> x.council(0, 0, 3, MOST));
        refused("2 index: both are most", -13, 3, x -> x.council(0, 0, MOST, MOST));
        refused("2 a text of no codes", -100, 0, x -> x.council(0, 0, 0, 0));
        refused("2 no codes at the end", -100, 0, x -> x.council(0, 0, 3, 0));
        refused("2 a faulty text", -100, 0, x -> x.council(0, 0, 0, 3));
    }

    private void ofSpeakersAndWords() {
        refused("3 speaker -1", -1, x -> x.ofSpeaker(-1, 3));
        refused("3 speaker 3", -1, x -> x.ofSpeaker(3, -1));
        refused("3 what -1", -2, x -> x.ofSpeaker(0, -1));
        refused("3 what 3", -2, x -> x.ofSpeaker(2, 3));
        refused("4 speaker -1", -1, x -> x.ofWord(-1, 0, 3));
        refused("4 speaker 3", -1, x -> x.ofWord(3, 0, 3));
        refused("4 word -1", -1, x -> x.ofWord(0, -1, 3));
        refused("4 word 1 of one", -1, x -> x.ofWord(0, 1, 3));
        refused("4 word 2 of two", -1, x -> x.ofWord(1, 2, 0));
        refused("4 what -1", -2, x -> x.ofWord(0, 0, -1));
        refused("4 what 3", -2, x -> x.ofWord(1, 1, 3));
        refused("5 law -1", -2, x -> x.law(-1));
        refused("5 law 4", -2, x -> x.law(4));
        refused("6 speaker -1", -1, x -> x.swap(-1, 0));
        refused("6 speaker 3", -1, x -> x.swap(3, 0));
        refused("6 other -1", -1, x -> x.swap(0, -1));
        refused("6 other 3", -1, x -> x.swap(0, 3));
        refused("6 one that is not there with himself", -1, x -> x.swap(3, 3));
    }

    // ---- 2 days told

    private void daysTold() {
        refused("7 sheet -1", -1, 0, x -> x.judge(-1, 3, -1, -1, 3));
        refused("7 sheet 4", -1, 0, x -> x.judge(4, 3, -1, -1, 3));
        refused("7 lane -1", -2, 0, x -> x.judge(1, -1, -1, -1, 3));
        refused("7 lane 3", -2, 0, x -> x.judge(2, 3, -1, -1, 3));
        refused("7 cast", -12, 2, x -> x.judge(2, 1, -1, -1, 3));
        refused("7 nothing", -11, 1, x -> x.judge(1, 1, -1, -1, 3));
        refused("7 size", -14, 4, x -> x.judge(2, 2, -1, -1, 3));
        refused("7 index -1", -13, 3, x -> x.judge(2, 2, -1, 0, 3));
        refused("7 index 5 of no cells", -13, 3, x -> x.judge(2, 2, 5, 0, 3));
        refused("7 index ahead of how many turns", -13, 3, x -> x.judge(2, 2, 0, 5, 3));
        refused("7 index: the sum wraps", -13, 3, x -> x.judge(2, 2, 1, MOST, 3));
        refused("7 five of four turns", -2, 0, x -> x.judge(3, 2, 0, 5, 3));
        refused("7 no such word", -1, 0, x -> x.judge(3, 2, 0, 4, 3));
        refused("7 what -1", -2, 0, x -> x.judge(2, 2, 0, 4, -1));
        refused("7 what 3", -2, 0, x -> x.judge(2, 2, 0, 4, 3));
        refused("7 what 3 of no cells", -2, 0, x -> x.judge(2, 2, 4, 0, 3));
        refused("8 sheet -1", -1, 0, x -> x.worthOf(-1, 3, -1, -1, 3));
        refused("8 sheet 4", -1, 0, x -> x.worthOf(4, 3, -1, -1, 3));
        refused("8 lane -1", -2, 0, x -> x.worthOf(1, -1, -1, -1, 3));
        refused("8 lane 3", -2, 0, x -> x.worthOf(2, 3, -1, -1, 3));
        refused("8 cast", -12, 2, x -> x.worthOf(2, 0, -1, -1, 3));
        refused("8 nothing", -11, 1, x -> x.worthOf(1, 2, -1, -1, 3));
        refused("8 size", -14, 4, x -> x.worthOf(2, 2, -1, -1, 3));
        refused("8 index -1", -13, 3, x -> x.worthOf(2, 2, -1, 0, 3));
        refused("8 index 5 of no cells", -13, 3, x -> x.worthOf(2, 2, 5, 0, 3));
        refused("8 index: the sum wraps", -13, 3, x -> x.worthOf(2, 2, 4, MOST, 3));
        refused("8 five of four turns", -2, 0, x -> x.worthOf(3, 2, 0, 5, 3));
        refused("8 no such word", -1, 0, x -> x.worthOf(3, 2, 0, 1, 0));
        refused("8 speaker -1", -1, 0, x -> x.worthOf(2, 2, 0, 4, -1));
        refused("8 speaker 3", -1, 0, x -> x.worthOf(2, 2, 0, 0, 3));
    }

    // ---- 3 for himself, together

    private void forHimself() {
        refused("9 turn -1", -1, x -> x.choice(-1, -1));
        refused("9 turn 4", -1, x -> x.choice(4, 21));
        refused("9 water -1", -2, x -> x.choice(0, -1));
        refused("9 water above the jar", -2, x -> x.choice(3, 21));
        refused("9 water, the most", -2, x -> x.choice(0, MOST));
        refused("10 turn -1", -1, x -> x.says(-1));
        refused("10 turn 4", -1, x -> x.says(4));
        refused("11 turn -1", -1, x -> x.water(-1));
        refused("11 turn 4", -1, x -> x.water(4));
        refused("12 speaker -1", -1, x -> x.worth(-1));
        refused("12 speaker 3", -1, x -> x.worth(3));
        refused("13 turn -2", -1, x -> x.together(-2));
        refused("13 turn 4", -1, x -> x.together(4));
    }

    // ---- 4 thanks, orders

    private void thanksAndOrders() {
        refused("14 speaker -1", LOST, x -> x.owed(-1, 0));
        refused("14 speaker 3", LOST, x -> x.owed(3, 0));
        refused("14 other -1", LOST, x -> x.owed(0, -1));
        refused("14 other 3", LOST, x -> x.owed(0, 3));
        refused("14 they are one", LOST, x -> x.owed(2, 2));
        refused("15 speaker -1", LOST, x -> x.bargain(-1, 0));
        refused("15 speaker 3", LOST, x -> x.bargain(3, 0));
        refused("15 other -1", LOST, x -> x.bargain(0, -1));
        refused("15 other 3", LOST, x -> x.bargain(0, 3));
        refused("15 they are one", LOST, x -> x.bargain(2, 2));
        refused("16 speaker -1", -1, x -> x.motion(-1, 0, -1));
        refused("16 speaker 3", -1, x -> x.motion(3, 0, -1));
        refused("16 word -1", -1, x -> x.motion(0, -1, -1));
        refused("16 word 1 of one", -1, x -> x.motion(0, 1, -1));
        refused("16 place -2", -1, x -> x.motion(0, 0, -2));
        refused("16 place 3", -1, x -> x.motion(0, 0, 3));
        refused("16 place 3, though there is no order", -1, x -> x.motion(2, 0, 3));
        refused("16 there is no order", -9, x -> x.motion(2, 0, -1));
        refused("16 there is no order, place 2", -9, x -> x.motion(2, 0, 2));
        refused("17 speaker -1", -1, x -> x.dry(-1, 0));
        refused("17 speaker 3", -1, x -> x.dry(3, 0));
        refused("17 word -1", -1, x -> x.dry(1, -1));
        refused("17 word 2 of two", -1, x -> x.dry(1, 2));
    }

    // ---- 5 the log, laws, shares

    private void logLawsShares() {
        refused("18 sheet -1", -1, 0, x -> x.day(-1, 3, -1, -1));
        refused("18 sheet 4", -1, 0, x -> x.day(4, 3, -1, -1));
        refused("18 lane -1", -2, 0, x -> x.day(1, -1, -1, -1));
        refused("18 lane 3", -2, 0, x -> x.day(2, 3, -1, -1));
        refused("18 cast", -12, 2, x -> x.day(2, 1, -1, -1));
        refused("18 nothing", -11, 1, x -> x.day(1, 1, -1, -1));
        refused("18 index -1", -13, 3, x -> x.day(2, 2, -1, -1));
        refused("18 index: one too far", -13, 3, x -> x.day(2, 2, 1, -1));
        refused("18 index: too few cells", -13, 3, x -> x.day(0, 0, 0, -1));
        refused("18 index: the sum wraps", -13, 3, x -> x.day(2, 2, MOST, -1));
        refused("18 no such word", -1, 0, x -> x.day(3, 2, 0, -1));
        refused("18 end -1", -2, 0, x -> x.day(2, 2, 0, -1));
        refused("18 end 100", -2, 0, x -> x.day(2, 2, 0, 100));
        refused("19 -1", -2, x -> x.back(-1));
        refused("19 three of two", -2, x -> x.back(3));
        refused("19 the least", -2, x -> x.back(LEAST));
        refused("20 what -1", -2, x -> x.guess(-1));
        refused("20 what 2", -2, x -> x.guess(2));
        refused("21 law -2", -2, x -> x.byLaw(-2));
        refused("21 law 4", -2, x -> x.byLaw(4));
        refused("22 speaker -1", LOST, x -> x.share(-1, 0));
        refused("22 speaker 3", LOST, x -> x.share(3, 0));
        refused("22 which -1", LOST, x -> x.share(0, -1));
        refused("22 which 2", LOST, x -> x.share(0, 2));
    }

    // ---- 6 sheets, parts

    private void sheets() {
        refused("23 sheet -1", -1, 0, x -> x.sheet(-1, 3, -1));
        refused("23 sheet 4", -1, 0, x -> x.sheet(4, 3, 101));
        refused("23 lane -1", -2, 0, x -> x.sheet(0, -1, -1));
        refused("23 lane 3", -2, 0, x -> x.sheet(0, 3, -1));
        refused("23 101 cells", -2, 0, x -> x.sheet(0, 0, 101));
        refused("23 the most", -2, 0, x -> x.sheet(1, 0, MOST));
        refused("23 size -1", -14, 4, x -> x.sheet(0, 0, -1));
        refused("23 size, the least", -14, 4, x -> x.sheet(1, 0, LEAST));
        refused("24 sheet -1", -1, x -> x.lose(-1));
        refused("24 sheet 4", -1, x -> x.lose(4));
        refused("24 nothing to lose", 0, x -> x.lose(1));
        refused("25 sheet -1", -1, 0, x -> x.put(-1, -1, 9));
        refused("25 sheet 4", -1, 0, x -> x.put(4, -1, 9));
        refused("25 nothing", -11, 1, x -> x.put(1, -1, 9));
        refused("25 index -1", -13, 3, x -> x.put(0, -1, 9));
        refused("25 index 3 of three", -13, 3, x -> x.put(0, 3, 9));
        refused("25 index, the least", -13, 3, x -> x.put(3, LEAST, 9));
        refused("26 sheet -1", LOST, 0, x -> x.cell(-1, -1, 3));
        refused("26 sheet 4", LOST, 0, x -> x.cell(4, -1, 3));
        refused("26 lane -1", LOST, 0, x -> x.cell(1, -1, -1));
        refused("26 lane 3", LOST, 0, x -> x.cell(0, -1, 3));
        refused("26 cast", LOST, 2, x -> x.cell(0, -1, 1));
        refused("26 nothing is no cast", LOST, 1, x -> x.cell(1, -1, 2));
        refused("26 index -1", LOST, 3, x -> x.cell(0, -1, 0));
        refused("26 index 3 of three", LOST, 3, x -> x.cell(0, 3, 0));
        refused("26 index, the most", LOST, 3, x -> x.cell(2, MOST, 2));
        refused("27 sheet -1", -1, 0, x -> x.copy(-1, -1, 1, -1, -1));
        refused("27 sheet 4", -1, 0, x -> x.copy(4, -1, 1, -1, -1));
        refused("27 other -1", -1, 0, x -> x.copy(1, -1, -1, -1, -1));
        refused("27 other 4", -1, 0, x -> x.copy(1, -1, 4, -1, -1));
        refused("27 nothing", -11, 1, x -> x.copy(1, -1, 0, -1, -1));
        refused("27 the other has nothing", -11, 1, x -> x.copy(0, -1, 1, -1, -1));
        refused("27 neither has", -11, 1, x -> x.copy(1, 0, 1, 0, 0));
        refused("27 cast", -12, 2, x -> x.copy(0, -1, 2, -1, -1));
        refused("27 cast of no cells", -12, 2, x -> x.copy(2, 0, 0, 0, 0));
        refused("27 i -1 of no cells", -13, 3, x -> x.copy(2, -1, 3, 0, 0));
        refused("27 i 5 of no cells", -13, 3, x -> x.copy(2, 5, 3, 0, 0));
        refused("27 j -1 of no cells", -13, 3, x -> x.copy(3, 0, 2, -1, 0));
        refused("27 j 5 of no cells", -13, 3, x -> x.copy(3, 0, 2, 5, 0));
        refused("27 n -1", -13, 3, x -> x.copy(2, 1, 3, 1, -1));
        refused("27 n, the least", -13, 3, x -> x.copy(2, 0, 3, 0, LEAST));
        refused("27 beyond", -13, 3, x -> x.copy(2, 2, 3, 0, 3));
        refused("27 beyond the other", -13, 3, x -> x.copy(3, 0, 2, 2, 3));
        refused("27 beyond itself", -13, 3, x -> x.copy(0, 0, 0, 1, 3));
        refused("27 the sums wrap", -13, 3, x -> x.copy(2, 1, 3, 1, MOST));
        refused("27 i and n are most", -13, 3, x -> x.copy(2, MOST, 3, 0, MOST));
        refused("27 j and n are most", -13, 3, x -> x.copy(2, 0, 3, MOST, 1));
    }

    private void parts() {
        refused("28 speaker -1", -1, x -> x.tell(-1));
        refused("28 speaker 3", -1, x -> x.tell(3));
        refused("29 speaker -1", -1, x -> x.call(-1));
        refused("29 speaker 3", -1, x -> x.call(3));
        refused("30 speaker -1", -1, 0, x -> x.as(-1, 3));
        refused("30 speaker 3", -1, 0, x -> x.as(3, 3));
        refused("30 kind -1", -2, 0, x -> x.as(0, -1));
        refused("30 kind 3", -2, 0, x -> x.as(2, 3));
        refused("30 a plain one is not thrifty", -12, 2, x -> x.as(0, 1));
        refused("30 a plain one is not old", -12, 2, x -> x.as(0, 2));
        refused("30 a thrifty one is not old", -12, 2, x -> x.as(1, 2));
        refused("33 what -1", -2, x -> x.many(-1));
        refused("33 what 6", -2, x -> x.many(6));
    }

    // ---- no council

    private void withoutCouncil() {
        refused("3 nobody", -1, x -> x.ofSpeaker(0, 0));
        refused("4 nobody", -1, x -> x.ofWord(0, 0, 0));
        refused("5 the law ahead of no council", -2, x -> x.law(4));
        refused("5 no council", -3, x -> x.law(0));
        refused("6 nobody", -1, x -> x.swap(0, 0));
        refused("7 index ahead of no council", -13, 3, x -> x.judge(2, 2, 0, 5, 3));
        refused("7 no council ahead of the rest", -3, 0, x -> x.judge(2, 2, 0, 4, 3));
        refused("7 no council, no cells", -3, 0, x -> x.judge(2, 2, 4, 0, 0));
        refused("8 no council ahead of the rest", -3, 0, x -> x.worthOf(2, 2, 0, 4, 0));
        refused("8 no council, no cells", -3, 0, x -> x.worthOf(2, 2, 0, 0, 0));
        refused("9 no turns", -1, x -> x.choice(0, 0));
        refused("10 no turns", -1, x -> x.says(0));
        refused("11 no turns", -1, x -> x.water(0));
        refused("12 nobody", -1, x -> x.worth(0));
        refused("13 no turns", -1, x -> x.together(0));
        refused("13 no council", -3, x -> x.together(-1));
        refused("14 nobody", LOST, x -> x.owed(0, 1));
        refused("15 nobody", LOST, x -> x.bargain(0, 1));
        refused("16 nobody", -1, x -> x.motion(0, 0, -1));
        refused("17 nobody", -1, x -> x.dry(0, 0));
        refused("18 lane ahead of no council", -2, 0, x -> x.day(0, 3, 0, 0));
        refused("18 cast ahead of no council", -12, 2, x -> x.day(0, 1, 0, 0));
        refused("18 nothing ahead of no council", -11, 1, x -> x.day(1, 1, 0, 0));
        refused("18 index -1 of no cells", -13, 3, x -> x.day(0, 0, -1, 0));
        refused("18 index 4 of no cells", -13, 3, x -> x.day(0, 0, 4, 0));
        refused("18 no council: no cells", -3, 0, x -> x.day(0, 0, 3, -1));
        refused("18 no council", -3, 0, x -> x.day(0, 0, 0, 100));
        refused("19 no days", -2, x -> x.back(1));
        refused("19 none of no days", 0, x -> x.back(0));
        refused("20 what ahead of no council", -2, x -> x.guess(2));
        refused("20 no council", -3, x -> x.guess(1));
        refused("21 law ahead of no council", -2, x -> x.byLaw(-2));
        refused("21 no council", -3, x -> x.byLaw(0));
        refused("21 no council: the best", -3, x -> x.byLaw(-1));
        refused("22 nobody", LOST, x -> x.share(0, 0));
        refused("28 nobody", -1, x -> x.tell(0));
        refused("29 nobody", -1, x -> x.call(0));
        refused("30 nobody", -1, 0, x -> x.as(0, 0));
        for (int what = 0; what < 6; what++) {
            int which = what;
            refused("33 all is 0, " + what, 0, x -> x.many(which));
        }
        refused("33 what 6", -2, x -> x.many(6));
    }

    /** SHEETS need no COUNCIL; what stands in them is then refused or taken as ever. */
    private void sheetsWithoutCouncil() {
        refused("2 codes that are no text", -100, 0, x -> x.council(3, 2, 0, 32));
        refused("2 a text that has no codes", -100, 0, x -> x.council(3, 2, 32, 0));
        sheets();
    }
}
