/** What the tests share: answers counted and told, sheets filled with texts and rows. */
final class Checks {
    private final String name;
    private int wrong = 0;
    private int asked = 0;

    Checks(String name) {
        this.name = name;
    }

    void due(String what, long got, long want) {
        asked++;
        if (got != want) {
            wrong++;
            if (wrong <= 40) {
                System.out.println(name + ": " + what + " answered " + got + ", due is " + want);
            }
        }
    }

    void finish() {
        System.out.println(name + ": " + asked + " answers, " + wrong + " not as due");
        if (wrong != 0 || asked == 0) {
            System.exit(1);
        }
    }

    /** Tells a text by sheet 3, as a row of ints. */
    static int council(JarCouncil x, String text) {
        x.sheet(3, 2, text.length());
        for (int i = 0; i < text.length(); i++) {
            x.put(3, i, text.charAt(i));
        }
        return x.council(3, 2, 0, text.length());
    }

    static JarCouncil of(String text) {
        JarCouncil x = new JarCouncil();
        int answer = council(x, text);
        if (answer < 0) {
            throw new IllegalStateException(text + " is not taken: " + answer);
        }
        return x;
    }

    /** Puts a row of ints into a sheet. */
    static void row(JarCouncil x, int sheet, int... cells) {
        x.sheet(sheet, 2, cells.length);
        for (int i = 0; i < cells.length; i++) {
            x.put(sheet, i, cells[i]);
        }
    }
}
