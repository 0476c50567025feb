/** Holds answers against what is due, and ends a test with exit code 1 if one was wrong. */
final class Check {
    private static int asked = 0;
    private static int wrong = 0;

    private Check() {
    }

    static void due(String call, long got, long want) {
        asked++;
        if (got != want) {
            wrong++;
            if (wrong <= 40) {
                System.out.println(call + " answered " + got + ", due is " + want);
            }
        }
    }

    static void holds(String what, boolean does) {
        due(what, does ? 1 : 0, 1);
    }

    /** A new object with a text typed into it. */
    static SpiderLoom loom(String text) {
        SpiderLoom x = new SpiderLoom();
        typeAll(x, text);
        return x;
    }

    static void typeAll(SpiderLoom x, String text) {
        for (int i = 0; i < text.length(); i++) {
            x.type(text.charAt(i));
        }
    }

    /** A sheet of a form with these items. */
    static void fill(SpiderLoom x, int s, int form, int... items) {
        x.sheet(s, form, items.length);
        for (int i = 0; i < items.length; i++) {
            x.put(s, form, i, items[i]);
        }
    }

    /** A web as a text: its pegs' figures, one behind the other. */
    static String web(SpiderLoom x, int peg, int law) {
        StringBuilder row = new StringBuilder();
        for (int i = 0; i < 10; i++) {
            int at = x.web(peg, law, i);
            if (at == SpiderLoom.NONE) {
                break;
            }
            row.append(at);
        }
        return row.toString();
    }

    static void dueWeb(String of, SpiderLoom x, int peg, int law, String want) {
        String got = web(x, peg, law);
        asked++;
        if (!got.equals(want)) {
            wrong++;
            System.out.println(of + ": web(" + peg + ", " + law + ") is " + got + ", due is " + want);
        }
    }

    static void end(String test) {
        System.out.println(test + ": " + asked + " answers, " + wrong + " not as due");
        if (wrong != 0 || asked == 0) {
            System.exit(1);
        }
    }
}
