import java.util.ArrayList;
import java.util.List;

/**
 * What stands between calls: a question changes nothing, whatever has been asked ahead of it; and
 * what is brought about in two ways is the same.
 */
public final class QuestionsTest {
    private static final String[] TEXTS = {
        "j20;l1;pw0553;tw0592w1099;ow0199",
        "j40;l3;pw1051;tw0862;pw2093w0811",
        "j10;l0;pw0619w0110;pw0990",
        "j30;l2;tw0911w0511;ow1011;pw0743w0334;tw0260;pw1219w0108",
    };
    private static final int NONE = -9;

    private final Checks checks = new Checks("QuestionsTest");
    private final List<Question> questions = new ArrayList<>();

    private interface Question {
        long of(JarCouncil x);
    }

    public static void main(String[] args) {
        QuestionsTest test = new QuestionsTest();
        test.makeQuestions();
        for (String text : TEXTS) {
            for (int v = 0; v < 4; v++) {
                test.changeNothing(text, v);
                test.sameByTwoWays(text, v);
            }
        }
        test.checks.finish();
    }

    private void makeQuestions() {
        for (int a = -1; a < 6; a++) {
            int k = a;
            add(x -> x.ofSpeaker(k, 0) + 10 * x.ofSpeaker(k, 1) + 100 * x.ofSpeaker(k, 2));
            add(x -> x.says(k));
            add(x -> x.water(k));
            add(x -> x.worth(k));
            add(x -> x.choice(k, 9));
            add(x -> x.together(k));
            add(x -> x.byLaw(k));
            add(x -> x.share(k, 0));
            add(x -> x.share(k, 1));
            add(x -> x.guess(k));
            add(x -> x.many(k));
            add(x -> x.as(k, 1));
            add(x -> x.judge(2, 2, 0, k, 2));
            add(x -> x.worthOf(2, 2, 0, 2, k));
            add(x -> x.cell(2, k, 2));
            for (int b = 0; b < 3; b++) {
                int q = b;
                add(x -> x.ofWord(k, q, 0) + 100 * x.ofWord(k, q, 1) + 1000 * x.ofWord(k, q, 2));
                add(x -> x.motion(k, q, -1));
                add(x -> x.motion(k, q, 1));
                add(x -> x.dry(k, q));
                add(x -> x.owed(k, q));
                add(x -> x.bargain(k, q));
            }
        }
        add(x -> x.trace());
    }

    private void add(Question question) {
        questions.add(question);
    }

    /** A council by a law, in another order, two days in the log, a trace. */
    private static JarCouncil setting(String text, int v) {
        JarCouncil x = Checks.of(text);
        x.law(v);
        x.swap(0, 1);
        x.tell(0);
        days(x);
        return x;
    }

    private static void days(JarCouncil x) {
        Checks.row(x, 2, NONE, 0, NONE, NONE, 0, NONE);
        x.day(2, 2, 0, x.judge(2, 2, 0, x.many(4), 2));
        x.day(2, 2, 0, x.judge(2, 2, 0, x.many(4), 2));
    }

    private long[] answers(JarCouncil x) {
        long[] answers = new long[questions.size()];
        for (int i = 0; i < answers.length; i++) {
            answers[i] = questions.get(i).of(x);
        }
        return answers;
    }

    /** Each question first, and then all others, from the last one back. */
    private void changeNothing(String text, int v) {
        long[] due = answers(setting(text, v));
        for (int first = 0; first < due.length; first++) {
            JarCouncil x = setting(text, v);
            String what = text + " by law " + v + ", question " + first;
            checks.due(what + " asked first", questions.get(first).of(x), due[first]);
            for (int i = due.length - 1; i >= 0; i--) {
                checks.due(what + ", then " + i, questions.get(i).of(x), due[i]);
            }
        }
    }

    /** Some questions that leave plans and orders behind them. */
    private static void askSome(JarCouncil x) {
        for (int k = 0; k < 4; k++) {
            x.choice(k, 9);
            x.says(k);
            x.together(k);
            x.motion(k, 0, -1);
            x.dry(k, 0);
            x.owed(k, 1);
            x.byLaw(k);
        }
        x.guess(0);
    }

    private void same(String what, JarCouncil x, long[] due) {
        long[] answers = answers(x);
        for (int i = 0; i < due.length; i++) {
            checks.due(what + ", question " + i, answers[i], due[i]);
        }
    }

    private void sameByTwoWays(String text, int v) {
        String name = text + " by law " + v;
        long[] due = answers(setting(text, v));
        JarCouncil x = setting(text, v);
        x.swap(0, 1);
        askSome(x);
        x.swap(1, 0);
        days(x);
        same(name + ", places changed twice", x, due);
        x = setting(text, v);
        x.law((v + 1) % 4);
        askSome(x);
        x.law(v);
        days(x);
        same(name + ", another law between", x, due);
        x = Checks.of(TEXTS[v]);
        x.law(3);
        x.swap(0, 1);
        askSome(x);
        Checks.council(x, text);
        x.law(v);
        x.swap(0, 1);
        x.tell(0);
        days(x);
        same(name + ", another text ahead", x, due);
        x = setting(text, v);
        askSome(x);
        x.day(2, 2, 0, 1);
        askSome(x);
        x.back(1);
        same(name + ", a day taken back", x, due);
    }
}
