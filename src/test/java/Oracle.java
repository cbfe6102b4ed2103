import java.util.ArrayList;
import java.util.Arrays;
import java.util.List;
import java.util.regex.Matcher;
import java.util.regex.Pattern;

/**
 * The document once more, written apart from the class and without care for cost: days are tried
 * out by recursion, orders and rows by trying all. OracleTest compares the two.
 */
final class Oracle {
    static final int UNKNOWN = -1, OUTSIDE = -2, STATE = -3, FULL = -4, NONE = -9;
    static final long LOST = Long.MIN_VALUE;

    record Word(int length, int own, int others) { }

    record Speaker(char letter, List<Word> words) {
        int kind() {
            return "pto".indexOf(letter);
        }
    }

    record Told(List<Integer> words, int end) { }

    /** What a call answers that is refused or comes to a fault. */
    static final class Refusal extends RuntimeException {
        private static final long serialVersionUID = 1L;
        final int answer;

        Refusal(int answer) {
            super(null, null, false, false);
            this.answer = answer;
        }
    }

    /** How days go by: the setting of one question. */
    record Setting(List<Speaker> speakers, int jar, int leak, int law, List<Integer> order) {
        int turns() {
            return speakers.size() + (law == 3 ? 1 : 0);
        }

        int who(int turn) {
            return order.get(turn == speakers.size() ? 0 : turn);
        }

        int first() {
            return law == 1 ? jar / speakers.size() : jar;
        }

        int behind(int water) {
            int less = Math.max(0, water - leak);
            return switch (law) {
                case 1 -> first();
                case 2 -> less / 2;
                default -> less;
            };
        }

        Word word(int turn, int q) {
            return speakers.get(who(turn)).words().get(q);
        }

        int worthOf(int turn, int q, int k) {
            return who(turn) == k ? word(turn, q).own() : word(turn, q).others();
        }
    }

    static final class Course {
        final List<Integer> said = new ArrayList<>();
        final List<Boolean> heard = new ArrayList<>();
        final List<Integer> waters = new ArrayList<>();
        int end;
    }

    private List<Speaker> speakers = List.of();
    private int jar = 0;
    private int leak = 0;
    private int law = 0;
    private List<Integer> order = List.of();
    private List<Told> log = new ArrayList<>();
    private final Object[] sheets = new Object[4];
    private int trace = 0;
    private int fault = 0;

    private Setting setting() {
        return new Setting(speakers, jar, leak, law, order);
    }

    // ---- going by

    /** The words of a told row as they are heard or not. */
    private static Course goBy(Setting s, List<Integer> row) {
        Course c = new Course();
        int water = s.first();
        for (int t = 0; t < row.size(); t++) {
            int q = row.get(t);
            c.said.add(q);
            c.waters.add(water);
            boolean heard = q != NONE && s.word(t, q).length() <= water;
            c.heard.add(heard);
            if (heard) {
                water -= s.word(t, q).length();
            } else if (q != NONE) {
                water = 0;
            }
            water = s.behind(water);
        }
        c.end = water;
        return c;
    }

    private static int worth(Setting s, Course c, int k) {
        int sum = 0;
        for (int t = 0; t < c.said.size(); t++) {
            sum += c.heard.get(t) ? s.worthOf(t, c.said.get(t), k) : 0;
        }
        return sum;
    }

    private static int worthToAll(Setting s, Course c) {
        int sum = 0;
        for (int k = 0; k < s.speakers().size(); k++) {
            sum += worth(s, c, k);
        }
        return sum;
    }

    /** What is said from a turn on, each looking to himself. */
    private static List<Integer> rest(Setting s, int turn, int water) {
        if (turn == s.turns()) {
            return List.of();
        }
        Speaker who = s.speakers().get(s.who(turn));
        List<Integer> silent = new ArrayList<>(List.of(NONE));
        silent.addAll(rest(s, turn + 1, s.behind(water)));
        if (who.letter() == 'o') {
            return silent;
        }
        List<List<Integer>> ways = new ArrayList<>(List.of(silent));
        for (int q = 0; q < who.words().size(); q++) {
            int length = who.words().get(q).length();
            if (length <= water) {
                List<Integer> way = new ArrayList<>(List.of(q));
                way.addAll(rest(s, turn + 1, s.behind(water - length)));
                ways.add(way);
            }
        }
        ways.sort((a, b) -> {
            int va = worthOfRest(s, turn, a);
            int vb = worthOfRest(s, turn, b);
            if (va != vb) {
                return vb - va;
            }
            int la = a.get(0) == NONE ? 0 : who.words().get(a.get(0)).length();
            int lb = b.get(0) == NONE ? 0 : who.words().get(b.get(0)).length();
            if (la != lb) {
                return who.letter() == 'p' ? lb - la : la - lb;
            }
            return a.get(0) - b.get(0);
        });
        return ways.get(0);
    }

    /** To who speaks in the turn; all words of the rest are heard. */
    private static int worthOfRest(Setting s, int turn, List<Integer> row) {
        int sum = 0;
        for (int i = 0; i < row.size(); i++) {
            sum += row.get(i) == NONE ? 0 : s.worthOf(turn + i, row.get(i), s.who(turn));
        }
        return sum;
    }

    /** A free day, but that another word is said in one turn. */
    private static Course forced(Setting s, int turn, int word) {
        List<Integer> row = new ArrayList<>();
        for (int t = 0; t < s.turns(); t++) {
            int water = goBy(s, row).end;
            row.add(t == turn ? word : rest(s, t, water).get(0));
        }
        return goBy(s, row);
    }

    private static Course free(Setting s) {
        return goBy(s, rest(s, 0, s.first()));
    }

    private static boolean holds(Setting s, Course c, int k, int q) {
        for (int t = 0; t < c.said.size(); t++) {
            if (s.who(t) == k && c.said.get(t) == q) {
                return true;
            }
        }
        return false;
    }

    // ---- refusals

    private static void need(boolean fine, int answer) {
        if (!fine) {
            throw new Refusal(answer);
        }
    }

    private void needSpeaker(int k) {
        need(k >= 0 && k < speakers.size(), UNKNOWN);
    }

    private void needWord(int k, int q) {
        needSpeaker(k);
        need(q >= 0 && q < speakers.get(k).words().size(), UNKNOWN);
    }

    private int turns() {
        return speakers.isEmpty() ? 0 : setting().turns();
    }

    private void needTurn(int turn) {
        need(turn >= 0 && turn < turns(), UNKNOWN);
    }

    private void needCouncil() {
        need(!speakers.isEmpty(), STATE);
    }

    private static void needSheet(int k) {
        need(k >= 0 && k < 4, UNKNOWN);
    }

    private static int laneOf(Object row) {
        return row instanceof byte[] ? 0 : row instanceof short[] ? 1 : 2;
    }

    private static int sizeOf(Object row) {
        return java.lang.reflect.Array.getLength(row);
    }

    private static int get(Object row, int i) {
        return ((Number) java.lang.reflect.Array.get(row, i)).intValue();
    }

    private static void put(Object row, int i, int v) {
        if (row instanceof byte[] b) {
            b[i] = (byte) v;
        } else if (row instanceof short[] s) {
            s[i] = (short) v;
        } else if (row instanceof int[] r) {
            r[i] = v;
        }
    }

    private Object lane(int sheet, int lane) {
        needSheet(sheet);
        need(lane >= 0 && lane <= 2, OUTSIDE);
        Object row = sheets[sheet];
        need(row == null || laneOf(row) == lane, -12);
        need(row != null, -11);
        return row;
    }

    private List<Integer> part(int sheet, int lane, int i, int n) {
        Object row = lane(sheet, lane);
        need(n >= 0, -14);
        need(i >= 0 && i <= sizeOf(row) && (long) i + n <= sizeOf(row), -13);
        List<Integer> cells = new ArrayList<>();
        for (int c = 0; c < n; c++) {
            cells.add(get(row, i + c));
        }
        return cells;
    }

    private void needWords(List<Integer> row) {
        for (int t = 0; t < row.size(); t++) {
            int q = row.get(t);
            need(q == NONE || q >= 0 && q < speakers.get(setting().who(t)).words().size(), UNKNOWN);
        }
    }

    // ---- the calls

    private static final Pattern TEXT = Pattern.compile(
            "j(0[1-9]|[1-9][0-9]);l[0-9](;[pto](w(0[1-9]|[1-5][0-9]|60)[0-9][0-9]){1,3}){2,5}");

    /** -1: a text. A prefix goes on to a text if the pattern could match it with more behind it. */
    static int firstFault(String text) {
        for (int i = 1; i <= text.length(); i++) {
            Matcher m = TEXT.matcher(text.substring(0, i));
            if (!m.matches() && !m.hitEnd()) {
                boolean twoDigits = i >= 3 && Character.isDigit(text.charAt(i - 1))
                        && Character.isDigit(text.charAt(i - 2)) && "jw".indexOf(text.charAt(i - 3)) >= 0;
                return twoDigits ? i - 2 : i - 1;
            }
        }
        return TEXT.matcher(text).matches() ? -1 : text.length();
    }

    int council(int sheet, int lane, int i, int n) {
        StringBuilder text = new StringBuilder();
        for (int code : part(sheet, lane, i, n)) {
            text.append(code > 0 && code < 128 ? (char) code : '?');
        }
        int at = firstFault(text.toString());
        need(at < 0, -100 - at);
        String[] parts = text.toString().split(";");
        jar = Integer.parseInt(parts[0].substring(1));
        leak = Integer.parseInt(parts[1].substring(1));
        speakers = new ArrayList<>();
        order = new ArrayList<>();
        for (int p = 2; p < parts.length; p++) {
            List<Word> words = new ArrayList<>();
            String[] told = parts[p].split("w");
            for (int w = 1; w < told.length; w++) {
                int number = Integer.parseInt(told[w]);
                words.add(new Word(number / 100, number / 10 % 10, number % 10));
            }
            order.add(speakers.size());
            speakers.add(new Speaker(parts[p].charAt(0), words));
        }
        law = 0;
        log = new ArrayList<>();
        return speakers.size();
    }

    int ofSpeaker(int k, int what) {
        needSpeaker(k);
        need(what >= 0 && what <= 2, OUTSIDE);
        Speaker s = speakers.get(k);
        return what == 0 ? s.kind() : what == 1 ? s.words().size() : order.indexOf(k);
    }

    int ofWord(int k, int q, int what) {
        needWord(k, q);
        need(what >= 0 && what <= 2, OUTSIDE);
        Word w = speakers.get(k).words().get(q);
        return what == 0 ? w.length() : what == 1 ? w.own() : w.others();
    }

    int law(int v) {
        need(v >= 0 && v <= 3, OUTSIDE);
        needCouncil();
        int was = law;
        law = v;
        log = new ArrayList<>();
        return was;
    }

    int swap(int k, int j) {
        needSpeaker(k);
        needSpeaker(j);
        int p = order.indexOf(k);
        int r = order.indexOf(j);
        order.set(p, j);
        order.set(r, k);
        log = new ArrayList<>();
        return 1;
    }

    private Course told(int sheet, int lane, int i, int n) {
        List<Integer> row = part(sheet, lane, i, n);
        needCouncil();
        need(n <= turns(), OUTSIDE);
        needWords(row);
        return goBy(setting(), row);
    }

    int judge(int sheet, int lane, int i, int n, int what) {
        Course c = told(sheet, lane, i, n);
        need(what >= 0 && what <= 2, OUTSIDE);
        int heard = 0;
        int cut = NONE;
        for (int t = n - 1; t >= 0; t--) {
            heard += c.heard.get(t) ? 1 : 0;
            cut = c.said.get(t) != NONE && !c.heard.get(t) ? t : cut;
        }
        return what == 0 ? heard : what == 1 ? cut : c.end;
    }

    int worthOf(int sheet, int lane, int i, int n, int k) {
        Course c = told(sheet, lane, i, n);
        needSpeaker(k);
        return worth(setting(), c, k);
    }

    int choice(int turn, int water) {
        needTurn(turn);
        need(water >= 0 && water <= jar, OUTSIDE);
        return rest(setting(), turn, water).get(0);
    }

    int says(int turn) {
        needTurn(turn);
        return free(setting()).said.get(turn);
    }

    int water(int turn) {
        needTurn(turn);
        return free(setting()).waters.get(turn);
    }

    int worth(int k) {
        needSpeaker(k);
        return worth(setting(), free(setting()), k);
    }

    /** All rows, the first ones first; NOTHING behind the words. */
    int together(int q) {
        need(q == -1 || q >= 0 && q < turns(), UNKNOWN);
        needCouncil();
        Setting s = setting();
        List<Integer> best = null;
        int most = -1;
        int rows = 1;
        for (int t = 0; t < s.turns(); t++) {
            rows *= 4;
        }
        for (int r = 0; r < rows; r++) {
            List<Integer> row = new ArrayList<>();
            boolean stands = true;
            for (int t = 0; t < s.turns(); t++) {
                int digit = r >> 2 * (s.turns() - 1 - t) & 3;
                stands &= digit == 3 || digit < speakers.get(s.who(t)).words().size();
                row.add(digit == 3 ? NONE : digit);
            }
            if (!stands) {
                continue;
            }
            Course c = goBy(s, row);
            for (int t = 0; t < s.turns(); t++) {
                stands &= row.get(t) == NONE || c.heard.get(t);
            }
            if (stands && worthToAll(s, c) > most) {
                most = worthToAll(s, c);
                best = row;
            }
        }
        return q == -1 ? most : best.get(q);
    }

    private void needTwo(int k, int j) {
        needSpeaker(k);
        needSpeaker(j);
        need(k != j, UNKNOWN);
    }

    long owed(int k, int j) {
        needTwo(k, j);
        Setting s = setting();
        int turn = order.indexOf(k);
        Course silent = forced(s, turn, NONE);
        int water = silent.waters.get(turn);
        int word = NONE;
        for (int length = 1; length <= water; length++) {
            for (int q = speakers.get(k).words().size() - 1; q >= 0; q--) {
                word = speakers.get(k).words().get(q).length() == length ? q : word;
            }
        }
        return worth(s, silent, j) - worth(s, forced(s, turn, word), j);
    }

    long bargain(int k, int j) {
        needTwo(k, j);
        Setting s = setting();
        Course silent = forced(s, order.indexOf(k), NONE);
        Course free = free(s);
        return worth(s, silent, k) + worth(s, silent, j) - worth(s, free, k) - worth(s, free, j);
    }

    int motion(int k, int q, int p) {
        needWord(k, q);
        need(p >= -1 && p < speakers.size(), UNKNOWN);
        int fewest = 99;
        List<Integer> best = null;
        for (List<Integer> row : orders(speakers.size())) {
            Setting s = new Setting(speakers, jar, leak, law, row);
            int changes = 0;
            for (int place = 0; place < row.size(); place++) {
                changes += row.get(place).equals(order.get(place)) ? 0 : 1;
            }
            if (changes < fewest && holds(s, free(s), k, q)) {
                fewest = changes;
                best = row;
            }
        }
        need(best != null, NONE);
        return p == -1 ? fewest : best.get(p);
    }

    private static List<List<Integer>> orders(int n) {
        List<List<Integer>> all = new ArrayList<>();
        all.add(List.of());
        for (int place = 0; place < n; place++) {
            List<List<Integer>> longer = new ArrayList<>();
            for (List<Integer> row : all) {
                for (int k = 0; k < n; k++) {
                    if (!row.contains(k)) {
                        List<Integer> next = new ArrayList<>(row);
                        next.add(k);
                        longer.add(next);
                    }
                }
            }
            all = longer;
        }
        return all;
    }

    int dry(int k, int q) {
        needWord(k, q);
        Setting s = setting();
        int those = 0;
        for (int j = 0; j < speakers.size(); j++) {
            boolean can = false;
            for (int word = -1; word < speakers.get(j).words().size(); word++) {
                can |= !holds(s, forced(s, order.indexOf(j), word < 0 ? NONE : word), k, q);
            }
            those |= j != k && can ? 1 << j : 0;
        }
        return those;
    }

    int day(int sheet, int lane, int i, int end) {
        List<Integer> row = part(sheet, lane, i, turns());
        needCouncil();
        needWords(row);
        need(end >= 0 && end <= 99, OUTSIDE);
        need(log.size() < 6, FULL);
        log.add(new Told(row, end));
        return log.size() - 1;
    }

    int back(int k) {
        need(k >= 0 && k <= log.size(), OUTSIDE);
        log = new ArrayList<>(log.subList(0, log.size() - k));
        return log.size();
    }

    int guess(int what) {
        need(what == 0 || what == 1, OUTSIDE);
        needCouncil();
        int pairs = 0;
        int first = NONE;
        for (int pair = 0; pair < 10 * (log.size() + 1); pair++) {
            boolean fits = true;
            for (int d = 0; d < log.size(); d++) {
                int runs = d < pair / 10 ? 0 : pair % 10;
                Setting s = new Setting(speakers, jar, runs, law, order);
                fits &= goBy(s, log.get(d).words()).end == log.get(d).end();
            }
            if (fits) {
                first = pairs == 0 ? pair : first;
                pairs++;
            }
        }
        return what == 0 ? pairs : first;
    }

    int byLaw(int v) {
        need(v >= -1 && v <= 3, OUTSIDE);
        needCouncil();
        int[] worths = new int[4];
        for (int l = 0; l < 4; l++) {
            Setting s = new Setting(speakers, jar, leak, l, order);
            worths[l] = worthToAll(s, free(s));
        }
        if (v >= 0) {
            return worths[v];
        }
        int most = Arrays.stream(worths).max().getAsInt();
        int best = 0;
        while (worths[best] != most) {
            best++;
        }
        return best;
    }

    long share(int k, int which) {
        needSpeaker(k);
        need(which == 0 || which == 1, OUTSIDE);
        Setting s = setting();
        Course c = free(s);
        int upper = 0;
        for (int t = 0; t < s.turns(); t++) {
            upper += s.who(t) == k && c.heard.get(t) ? s.word(t, c.said.get(t)).length() : 0;
        }
        int lower = jar;
        for (int d = 99; d > 1; d--) {
            if (upper % d == 0 && lower % d == 0) {
                upper /= d;
                lower /= d;
            }
        }
        return which == 0 ? upper : lower;
    }

    int sheet(int k, int lane, int n) {
        needSheet(k);
        need(lane >= 0 && lane <= 2 && n <= 100, OUTSIDE);
        need(n >= 0, -14);
        sheets[k] = lane == 0 ? new byte[n] : lane == 1 ? new short[n] : new int[n];
        return 1;
    }

    int lose(int k) {
        needSheet(k);
        int had = sheets[k] == null ? 0 : 1;
        sheets[k] = null;
        return had;
    }

    int put(int k, int i, int v) {
        needSheet(k);
        need(sheets[k] != null, -11);
        need(i >= 0 && i < sizeOf(sheets[k]), -13);
        put(sheets[k], i, v);
        return 1;
    }

    long cell(int k, int i, int lane) {
        Object row = lane(k, lane);
        need(i >= 0 && i < sizeOf(row), -13);
        return get(row, i);
    }

    int copy(int k, int i, int other, int j, int n) {
        needSheet(k);
        needSheet(other);
        need(sheets[k] != null && sheets[other] != null, -11);
        need(laneOf(sheets[k]) == laneOf(sheets[other]), -12);
        need(i >= 0 && j >= 0 && n >= 0 && (long) i + n <= sizeOf(sheets[k])
                && (long) j + n <= sizeOf(sheets[other]), -13);
        System.arraycopy(sheets[k], i, sheets[other], j, n);
        return n;
    }

    // ---- bodies

    private class Plain {
        final int k;

        Plain(int k) {
            this.k = k;
        }

        int bodyOfTelling() {
            leave(1);
            return speakers.get(k).words().size();
        }

        final int plainBody() {
            leave(1);
            return speakers.get(k).words().size();
        }

        int bodyOfCalling() {
            leave(4);
            return k;
        }
    }

    private class Thrifty extends Plain {
        Thrifty(int k) {
            super(k);
        }

        @Override
        int bodyOfTelling() {
            leave(2);
            return super.bodyOfTelling() + 100;
        }
    }

    private final class Old extends Thrifty {
        Old(int k) {
            super(k);
        }

        @Override
        int bodyOfTelling() {
            leave(3);
            return super.bodyOfTelling() + plainBody();
        }

        @Override
        int bodyOfCalling() {
            leave(5);
            return 90;
        }
    }

    private void leave(int body) {
        trace = trace * 31 + body;
    }

    private Plain bodyOf(int k) {
        return switch (speakers.get(k).letter()) {
            case 'p' -> new Plain(k);
            case 't' -> new Thrifty(k);
            default -> new Old(k);
        };
    }

    int tell(int k) {
        needSpeaker(k);
        return bodyOf(k).bodyOfTelling();
    }

    int call(int k) {
        needSpeaker(k);
        return bodyOf(k).bodyOfCalling();
    }

    int as(int k, int kind) {
        needSpeaker(k);
        need(kind >= 0 && kind <= 2, OUTSIDE);
        Plain body = bodyOf(k);
        need(kind == 0 || kind == 1 && body instanceof Thrifty || body instanceof Old, -12);
        return 1;
    }

    int trace() {
        return trace;
    }

    int fault() {
        return fault;
    }

    int many(int what) {
        need(what >= 0 && what <= 5, OUTSIDE);
        return new int[] {speakers.size(), jar, leak, law, turns(), log.size()}[what];
    }

    // ---- one call by its number, so that the test can draw it

    static final String[] NAMES = {"council", "ofSpeaker", "ofWord", "law", "swap", "judge", "worthOf", "choice",
        "says", "water", "worth", "together", "owed", "bargain", "motion", "dry", "day", "back", "guess", "byLaw",
        "share", "sheet", "lose", "put", "cell", "copy", "tell", "call", "as", "trace", "fault", "many"};
    private static final List<String> OF_LONGS = List.of("owed", "bargain", "share", "cell");
    private static final List<String> OF_FAULTS =
            List.of("council", "judge", "worthOf", "day", "sheet", "put", "cell", "copy", "as");

    long ask(String name, int[] a) {
        long answer;
        int come = 0;
        try {
            answer = askFreely(name, a);
        } catch (Refusal r) {
            answer = OF_LONGS.contains(name) ? LOST : r.answer;
            come = r.answer <= -11 && r.answer >= -14 ? -10 - r.answer : 0;
        }
        fault = OF_FAULTS.contains(name) ? come : fault;
        return answer;
    }

    private long askFreely(String name, int[] a) {
        return switch (name) {
            case "council" -> council(a[0], a[1], a[2], a[3]);
            case "ofSpeaker" -> ofSpeaker(a[0], a[1]);
            case "ofWord" -> ofWord(a[0], a[1], a[2]);
            case "law" -> law(a[0]);
            case "swap" -> swap(a[0], a[1]);
            case "judge" -> judge(a[0], a[1], a[2], a[3], a[4]);
            case "worthOf" -> worthOf(a[0], a[1], a[2], a[3], a[4]);
            case "choice" -> choice(a[0], a[1]);
            case "says" -> says(a[0]);
            case "water" -> water(a[0]);
            case "worth" -> worth(a[0]);
            case "together" -> together(a[0]);
            case "owed" -> owed(a[0], a[1]);
            case "bargain" -> bargain(a[0], a[1]);
            case "motion" -> motion(a[0], a[1], a[2]);
            case "dry" -> dry(a[0], a[1]);
            case "day" -> day(a[0], a[1], a[2], a[3]);
            case "back" -> back(a[0]);
            case "guess" -> guess(a[0]);
            case "byLaw" -> byLaw(a[0]);
            case "share" -> share(a[0], a[1]);
            case "sheet" -> sheet(a[0], a[1], a[2]);
            case "lose" -> lose(a[0]);
            case "put" -> put(a[0], a[1], a[2]);
            case "cell" -> cell(a[0], a[1], a[2]);
            case "copy" -> copy(a[0], a[1], a[2], a[3], a[4]);
            case "tell" -> tell(a[0]);
            case "call" -> call(a[0]);
            case "as" -> as(a[0], a[1]);
            case "trace" -> trace();
            case "fault" -> fault();
            default -> many(a[0]);
        };
    }
}
