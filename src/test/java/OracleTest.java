import java.util.Arrays;
import java.util.Random;

/** Drawn runs of calls, always the same ones, answered by the class and by the oracle. */
public final class OracleTest {
    private static final int RUNS = 500;
    private static final int CALLS = 512;
    private static final int[] WILD = {Integer.MIN_VALUE, Integer.MAX_VALUE, -10, -9, -3, -2, -1, 6, 7, 99, 100, 101};

    private final Checks checks = new Checks("OracleTest");
    private final Random draws = new Random(20261120);
    private JarCouncil x;
    private Oracle oracle;
    private int run;
    private int calls;

    public static void main(String[] args) {
        OracleTest test = new OracleTest();
        for (int r = 0; r < RUNS; r++) {
            test.oneRun(r);
        }
        test.texts();
        test.checks.finish();
    }

    private void oneRun(int number) {
        x = new JarCouncil();
        oracle = new Oracle();
        run = number;
        calls = 0;
        if (number % 10 != 0) {
            putText(drawText());
        }
        while (calls < CALLS) {
            drawCall();
        }
    }

    private int below(int n) {
        return draws.nextInt(n);
    }

    /** Mostly of 0 .. n - 1, now and then far from it. */
    private int near(int n) {
        return below(24) == 0 ? WILD[below(WILD.length)] : below(n);
    }

    private void drawCall() {
        int kind = below(100);
        if (kind < 2) {
            putText(below(3) == 0 ? broken(drawText()) : drawText());
        } else if (kind < 6) {
            ask("law", near(4));
        } else if (kind < 10) {
            ask("swap", near(5), near(5));
        } else if (kind < 30) {
            drawTold();
        } else if (kind < 45) {
            drawSheets();
        } else {
            drawQuestion();
        }
    }

    private void drawTold() {
        int sheet = near(4);
        int lane = near(3);
        int turns = (int) oracle.ask("many", new int[] {4});
        if (below(3) > 0) {
            sheet = below(3);
            int size = turns + below(3);
            ask("sheet", sheet, lane, size);
            for (int t = 0; t < size; t++) {
                ask("put", sheet, t, below(3) == 0 ? -9 : below(8) == 0 ? near(4) : 0);
            }
        }
        int from = below(3) == 0 ? near(9) : 0;
        int n = below(3) == 0 ? near(8) : turns;
        for (int what = 0; what < 3; what++) {
            ask("judge", sheet, lane, from, n, near(4));
            ask("worthOf", sheet, lane, from, n, near(6));
        }
        long end = oracle.ask("judge", new int[] {sheet, lane, from, turns, 2});
        ask("judge", sheet, lane, from, turns, 2);
        ask("day", sheet, lane, from, below(4) > 0 && end >= 0 ? (int) end : near(100));
        ask("guess", near(2));
        ask("guess", 0);
        ask("guess", 1);
    }

    private void drawSheets() {
        switch (below(6)) {
            case 0 -> ask("sheet", near(4), near(3), near(102));
            case 1 -> ask("lose", near(4));
            case 2 -> ask("put", near(4), near(60), draws.nextInt());
            case 3 -> ask("cell", near(4), near(60), near(3));
            case 4 -> ask("copy", near(4), near(12), near(4), near(12), near(9));
            default -> ask("back", near(4));
        }
        ask("fault");
    }

    private void drawQuestion() {
        String[] names = {"ofSpeaker", "ofWord", "choice", "says", "water", "worth", "together", "owed", "bargain",
            "motion", "dry", "byLaw", "share", "tell", "call", "as", "trace", "fault", "many"};
        String name = names[below(names.length)];
        switch (name) {
            case "ofSpeaker", "as" -> ask(name, near(5), near(3));
            case "ofWord" -> ask(name, near(5), near(3), near(3));
            case "choice" -> ask(name, near(6), near(60));
            case "together", "byLaw" -> ask(name, near(6) - 1);
            case "owed", "bargain" -> ask(name, near(5), near(5));
            case "motion" -> ask(name, near(5), near(2), near(6) - 1);
            case "dry", "share" -> ask(name, near(5), near(2));
            case "trace", "fault" -> ask(name);
            default -> ask(name, near(6));
        }
    }

    /** Few numbers and small ones, so that worths are often even and water often runs short. */
    private String drawText() {
        int longest = 1 + below(below(3) == 0 ? 60 : 20);
        int dearest = 1 + below(9);
        int kinds = 1 + below(3);
        StringBuilder text = new StringBuilder();
        text.append('j').append(twoDigits(1 + below(99))).append(";l").append(below(10));
        int speakers = 2 + below(4);
        for (int k = 0; k < speakers; k++) {
            text.append(';').append("ptoptp".charAt(below(2 * kinds)));
            int words = 1 + below(3);
            for (int q = 0; q < words; q++) {
                text.append('w').append(twoDigits(1 + below(longest)));
                text.append(below(dearest + 1)).append(below(dearest + 1));
            }
        }
        return text.toString();
    }

    private static String twoDigits(int number) {
        return (number < 10 ? "0" : "") + number;
    }

    private String broken(String text) {
        StringBuilder other = new StringBuilder(text);
        String codes = "jlptow;0123456789x";
        int place = below(Math.max(1, text.length()));
        if (text.isEmpty()) {
            return "x";
        }
        switch (below(4)) {
            case 0 -> other.setCharAt(place, codes.charAt(below(codes.length())));
            case 1 -> other.deleteCharAt(place);
            case 2 -> other.insert(place, codes.charAt(below(codes.length())));
            default -> other.setLength(place);
        }
        return other.toString();
    }

    private void putText(String text) {
        int lane = below(3);
        int from = below(Math.min(4, 101 - text.length()));
        int behind = below(Math.min(3, 101 - text.length() - from));
        ask("sheet", 3, lane, from + text.length() + behind);
        for (int i = 0; i < text.length() + behind; i++) {
            int code = i < text.length() ? text.charAt(i) : '0' + below(10);
            ask("put", 3, from + i, code);
        }
        ask("council", 3, lane, from, below(text.length() + behind + 1));
        ask("council", 3, lane, from, text.length());
    }

    /** What later calls answer is free: so they are not asked. */
    private void ask(String name, int... a) {
        if (calls >= CALLS) {
            return;
        }
        calls++;
        checks.due("run " + run + ": " + name + Arrays.toString(a), answer(name, a), oracle.ask(name, a));
    }

    /** Texts alone: each prefix, each code in each place, and many broken ones. */
    private void texts() {
        run = RUNS;
        eachCodeInEachPlace("j20;l1;pw0553;tw0592w1099w6011;ow0199");
        eachCodeInEachPlace("j09;l9;pw1000;pw1000;pw1000;pw1000;pw1000w5900");
        for (int t = 0; t < 400; t++) {
            x = new JarCouncil();
            oracle = new Oracle();
            calls = 0;
            String text = drawText();
            putText(text.substring(0, t % (text.length() + 1)));
            putText(broken(text));
            putText(broken(broken(text)));
        }
    }

    private void eachCodeInEachPlace(String text) {
        String codes = "jlptow;0123456789:/ x";
        for (int place = 0; place <= text.length(); place++) {
            String ahead = text.substring(0, place);
            String behind = text.substring(Math.min(place + 1, text.length()));
            textAlone(ahead);
            textAlone(ahead + behind);
            for (char code : codes.toCharArray()) {
                textAlone(ahead + code);
                textAlone(ahead + code + behind);
                textAlone(ahead + code + text.substring(place));
            }
        }
    }

    private void textAlone(String text) {
        int fault = Oracle.firstFault(text);
        int answer = Checks.council(new JarCouncil(), text);
        boolean due = fault < 0 ? answer >= 2 : answer == -100 - fault;
        checks.due("text " + text + " answered " + answer + ", at fault in " + fault, due ? 1 : 0, 1);
    }

    private long answer(String name, int[] a) {
        return switch (name) {
            case "council" -> x.council(a[0], a[1], a[2], a[3]);
            case "ofSpeaker" -> x.ofSpeaker(a[0], a[1]);
            case "ofWord" -> x.ofWord(a[0], a[1], a[2]);
            case "law" -> x.law(a[0]);
            case "swap" -> x.swap(a[0], a[1]);
            case "judge" -> x.judge(a[0], a[1], a[2], a[3], a[4]);
            case "worthOf" -> x.worthOf(a[0], a[1], a[2], a[3], a[4]);
            case "choice" -> x.choice(a[0], a[1]);
            case "says" -> x.says(a[0]);
            case "water" -> x.water(a[0]);
            case "worth" -> x.worth(a[0]);
            case "together" -> x.together(a[0]);
            case "owed" -> x.owed(a[0], a[1]);
            case "bargain" -> x.bargain(a[0], a[1]);
            case "motion" -> x.motion(a[0], a[1], a[2]);
            case "dry" -> x.dry(a[0], a[1]);
            case "day" -> x.day(a[0], a[1], a[2], a[3]);
            case "back" -> x.back(a[0]);
            case "guess" -> x.guess(a[0]);
            case "byLaw" -> x.byLaw(a[0]);
            case "share" -> x.share(a[0], a[1]);
            case "sheet" -> x.sheet(a[0], a[1], a[2]);
            case "lose" -> x.lose(a[0]);
            case "put" -> x.put(a[0], a[1], a[2]);
            case "cell" -> x.cell(a[0], a[1], a[2]);
            case "copy" -> x.copy(a[0], a[1], a[2], a[3], a[4]);
            case "tell" -> x.tell(a[0]);
            case "call" -> x.call(a[0]);
            case "as" -> x.as(a[0], a[1]);
            case "trace" -> x.trace();
            case "fault" -> x.fault();
            default -> x.many(a[0]);
        };
    }
}
