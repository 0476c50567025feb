import java.util.ArrayList;
import java.util.List;

/** Boundary cases of all promises: numbers beyond their bounds, the order of refusals, that they change nothing. */
final class EdgesOfRefusals extends Edges {
    /** Five PEGS, 1 HIDDEN, things SEEN, SHEETS of each FORM, 3 LOST, and STORE as the latest FINDING. */
    private static final String[] SOME = {"hide(1, 1)", "hide(7, 1)", "set(0, 60)", "set(1, 2)", "set(2, 3)",
        "seen(0, 1, 2)", "seen(0, 4, 3)", "sheet(0, 0, 3)", "put(0, 0, 0, 1)", "put(0, 0, 2, 5)", "sheet(1, 1, 2)",
        "put(1, 1, 0, 300)", "sheet(2, 2, 1)", "put(2, 2, 0, 70000)", "copy(0, 0, 1, 0, 1)"};
    private static final String FIVE = "00;44;02;77;90";

    /** The text is full, and so is what was SEEN. */
    private static final String[] FULL_UP = {"seen(0, 1, 1)", "seen(1, 1, 1)", "seen(2, 1, 1)", "seen(3, 1, 1)",
        "seen(4, 1, 1)", "seen(5, 1, 1)", "seen(6, 1, 1)", "seen(7, 1, 1)", "hide(2, 1)", "lose(0)"};
    private static final String FORTY = "00;11;22;33;44;55;66;77;88;99;10;20;30;4";

    /** A parameter's least and most number, and one that is well with the others. */
    private record Bound(int least, int most, int well) {
    }

    private static final Bound PEG = new Bound(0, 4, 3), OTHER = new Bound(0, 4, 2), LAW = new Bound(0, 3, 1);
    private static final Bound SHEET = new Bound(0, 3, 0), FORM = new Bound(0, 2, 0), FIGURE = new Bound(0, 9, 5);
    private static final Bound ANY = new Bound(LEAST, MOST, 0);

    static void all() {
        numbersNotAsTold();
        setNotAsTold();
        changeNothing();
        changeNothingWhenFull();
        changeNothingWhenEmpty();
        firstThatFits();
        notIfHidden();
    }

    private static Bound upTo(int most) {
        return new Bound(0, most, 0);
    }

    // ---- BAD

    private static void numbersNotAsTold() {
        terms(2, "BAD -2 (a number not as told, no such thing)");
        bounds("type", upTo(255));
        bounds("peg", PEG, upTo(2));
        bounds("hide", upTo(9), upTo(1));
        bounds("read", SHEET);
        bounds("far", PEG, OTHER);
        bounds("web", PEG, LAW, upTo(9));
        bounds("length", PEG, LAW, upTo(2));
        bounds("crosses", PEG, LAW);
        bounds("hangs", PEG, LAW, OTHER);
        bounds("pieces", PEG, LAW, OTHER);
        bounds("turned", PEG, LAW);
        bounds("more", PEG, LAW, FIGURE, FIGURE);
        bounds("begin", LAW);
        bounds("last", PEG, LAW, OTHER, upTo(1));
        bounds("two", PEG, LAW, OTHER, LAW, upTo(2));
        bounds("seen", FIGURE, new Bound(1, 9, 1), FIGURE);
        bounds("flies", PEG, LAW, ANY, upTo(99));
        bounds("dew", PEG, LAW, SHEET);
        bounds("sheet", SHEET, FORM, new Bound(LEAST, 48, 0));
        bounds("lose", SHEET);
        bounds("put", SHEET, FORM, ANY, ANY);
        bounds("get", SHEET, FORM, ANY);
        bounds("copy", SHEET, ANY, SHEET, ANY, ANY);
        bounds("write", PEG, LAW, SHEET);
        bounds("count", upTo(8));
    }

    private static void setNotAsTold() {
        terms(8, "BAD -2 (a number not as told");
        bounds("set", upTo(2), ANY);
        bounds("set", new Bound(LEAST, MOST, 0), upTo(200));
        bounds("set", new Bound(LEAST, MOST, 1), upTo(9));
        bounds("set", new Bound(LEAST, MOST, 2), upTo(9));
    }

    /** Each number by itself: at its bounds it is not BAD, beyond them it is, and nothing changes. */
    private static void bounds(String name, Bound... told) {
        for (int k = 0; k < told.length; k++) {
            Bound b = told[k];
            int bad = name.equals("get") ? LEAST : BAD;
            if (b.least != LEAST) {
                refused(with(name, told, k, b.least - 1), bad, FIVE, SOME);
                refused(with(name, told, k, LEAST), bad, FIVE, SOME);
                accepted(with(name, told, k, b.least));
            }
            if (b.most != MOST) {
                refused(with(name, told, k, b.most + 1), bad, FIVE, SOME);
                refused(with(name, told, k, MOST), bad, FIVE, SOME);
                accepted(with(name, told, k, b.most));
            }
        }
    }

    private static String with(String name, Bound[] told, int k, int v) {
        int[] arguments = new int[told.length];
        for (int i = 0; i < told.length; i++) {
            arguments[i] = i == k ? v : told[i].well;
        }
        return call(name, arguments);
    }

    private static void accepted(String call) {
        long got = run(FIVE).after(SOME).ask(call);
        due(call + " is BAD", got == BAD ? 1 : 0, 0);
    }

    // ---- what refusals change

    /** Holds a refusal, and that an object behind it answers as one that was not asked. */
    private static void refused(String call, long want, String text, String[] before) {
        Run asked = run(text).after(before);
        Run twin = run(text).after(before);
        asked.is(call, want);
        long finding = twin.ask("count(8)");
        if (want <= NULL && want >= SIZE) {
            finding = -10 - want;
        }
        asked.is("count(8)", finding);
        List<Long> answers = allOf(asked);
        List<Long> due = allOf(twin);
        due("how many answers behind " + call, answers.size(), due.size());
        for (int i = 0; i < Math.min(answers.size(), due.size()); i++) {
            due("answer " + i + " behind " + call, answers.get(i), due.get(i));
        }
    }

    /** All that an object tells of itself; it is of no use behind that. */
    private static List<Long> allOf(Run r) {
        List<Long> all = new ArrayList<>();
        all.add(r.ask("digest()"));
        for (int what = 0; what < 8; what++) {
            all.add(r.ask(call("count", what)));
        }
        for (int s = 0; s < 4; s++) {
            for (int form = 0; form < 3; form++) {
                for (int i = 0; i < 4; i++) {
                    all.add(r.ask(call("get", s, form, i)));
                }
            }
            all.add(r.ask(call("lose", s)));
        }
        for (int peg = 0; peg < 10; peg++) {
            all.add(r.ask(call("hide", peg, 0)));
        }
        // The text byte by byte, by what the rest of it is.
        for (int k = 0; k <= 40; k++) {
            all.add(r.ask("undo()"));
            all.add(r.ask("digest()"));
        }
        all.add(r.ask("forget()"));
        return all;
    }

    private static void changeNothing() {
        terms(34, "They change nothing (FINDINGS but count() 8).");
        String[] nulls = {"read(3)", "dew(0, 0, 3)", "dew(1, 0, 3)", "lose(3)", "put(3, 0, 0, 0)",
            "copy(0, 0, 3, 0, 1)", "copy(3, 0, 0, 0, 1)", "copy(3, 0, 3, 0, 0)", "write(0, 0, 3)", "write(1, 0, 3)"};
        for (String call : nulls) {
            refused(call, NULL, FIVE, SOME);
        }
        String[] nots = {"web(1, 0, 0)", "length(1, 0, 0)", "crosses(1, 0)", "hangs(1, 0, 0)", "pieces(1, 0, 0)",
            "turned(1, 0)", "more(1, 0, 5, 5)", "more(0, 0, 7, 7)", "more(0, 0, 4, 4)", "last(1, 0, 0, 0)",
            "last(0, 0, 1, 0)", "two(1, 0, 0, 0, 0)", "two(0, 0, 1, 0, 0)", "flies(1, 0, 0, 9)", "dew(1, 0, 0)",
            "write(1, 0, 0)"};
        for (String call : nots) {
            refused(call, NOT, FIVE, SOME);
        }
        String[] indices = {"put(0, 0, 3, 9)", "put(0, 0, -1, 9)", "put(2, 2, 1, 9)", "copy(0, 2, 0, 0, 2)",
            "copy(0, 0, 0, 2, 2)", "copy(0, -1, 0, 0, 1)", "copy(0, 0, 0, -1, 1)", "copy(0, 0, 0, 1, -1)",
            "copy(0, 4, 0, 0, 0)", "copy(0, 0, 0, 4, 0)"};
        for (String call : indices) {
            refused(call, INDEX, FIVE, SOME);
        }
        refused("put(0, 1, 0, 9)", CAST, FIVE, SOME);
        refused("put(1, 2, 0, 9)", CAST, FIVE, SOME);
        refused("copy(0, 0, 1, 0, 1)", STORE, FIVE, SOME);
        refused("copy(1, 0, 2, 0, 1)", STORE, FIVE, SOME);
        refused("sheet(0, 0, -1)", SIZE, FIVE, SOME);
        refused(call("sheet", 3, 2, LEAST), SIZE, FIVE, SOME);
        refused("last(0, 0, 0, 0)", BAD, FIVE, SOME);
        refused("two(2, 0, 2, 0, 0)", BAD, FIVE, SOME);
    }

    private static void changeNothingWhenFull() {
        terms(2, "NULL, NOT -3 (as told), FULL -4, other FINDINGS.");
        refused("type(59)", FULL, FORTY, FULL_UP);
        refused("type(256)", BAD, FORTY, FULL_UP);
        refused("seen(0, 1, 2)", FULL, FORTY, FULL_UP);
        refused("seen(0, 0, 2)", BAD, FORTY, FULL_UP);
        refused("more(0, 0, 5, 6)", NOT, TEN, FULL_UP);
        refused("more(0, 0, 5, 10)", BAD, TEN, FULL_UP);
    }

    private static void changeNothingWhenEmpty() {
        terms(4, "They change nothing");
        String[] none = {};
        refused("undo()", NOT, "", none);
        String[] bad = {"peg(0, 0)", "far(0, 0)", "web(0, 0, 0)", "length(0, 0, 0)", "crosses(0, 0)", "hangs(0, 0, 0)",
            "pieces(0, 0, 0)", "turned(0, 0)", "more(0, 0, 5, 5)", "last(0, 0, 1, 0)", "two(0, 0, 1, 0, 0)",
            "flies(0, 0, 0, 1)", "dew(0, 0, 0)", "write(0, 0, 0)"};
        for (String call : bad) {
            refused(call, BAD, "", none);
        }
        // Nor do questions that find none.
        refused("begin(0)", NONE, "", none);
        refused("tells()", NONE, "", none);
        refused("fault()", NONE, "", none);
    }

    // ---- their order

    private static void firstThatFits() {
        terms(26, "Refusals, the first that fits, in the order told at each act: BAD -2");
        Run r = run("00;01").after("hide(0, 1)").fill(0, 0, 7);
        // BAD before NULL before NOT.
        r.is("dew(0, 4, 1)", BAD).is("dew(2, 0, 1)", BAD).is("dew(0, 0, 1)", NULL).is("dew(0, 0, 0)", NOT)
            .is("dew(1, 0, 0)", NONE);
        r.is("write(0, 4, 1)", BAD).is("write(2, 0, 1)", BAD).is("write(0, 0, 1)", NULL).is("write(0, 0, 0)", NOT)
            .is("write(1, 0, 0)", 1);
        // BAD before NULL before CAST before INDEX.
        r.is("put(1, 3, 9, 0)", BAD).is("put(1, 1, 9, 0)", NULL).is("put(0, 1, 9, 0)", CAST)
            .is("put(0, 0, 9, 0)", INDEX).is("put(0, 0, 0, 0)", 1);
        r.is("get(1, 3, 9)", LEAST).is("count(8)", 2).is("get(1, 1, 9)", LEAST).is("count(8)", 1)
            .is("get(0, 1, 9)", LEAST).is("count(8)", 3).is("get(0, 0, 9)", LEAST).is("count(8)", 2);
        // BAD before NULL before STORE before INDEX.
        r.after("sheet(2, 2, 1)").is("copy(1, 9, 4, 9, 9)", BAD).is("copy(4, 9, 1, 9, 9)", BAD)
            .is("copy(1, 9, 2, 9, 9)", NULL).is("copy(2, 9, 1, 9, 9)", NULL).is("copy(0, 9, 2, 9, 9)", STORE)
            .is("copy(0, 9, 0, 9, 9)", INDEX).is("copy(0, 0, 0, 0, 1)", 1);
        // BAD before SIZE, BAD before FULL.
        r.is("sheet(0, 3, -1)", BAD).is("sheet(4, 0, -1)", BAD).is("sheet(0, 0, -1)", SIZE);
        run(FORTY).is("type(256)", BAD).is("type(255)", FULL);
        run("").after(FULL_UP).is("seen(0, 10, 0)", BAD).is("seen(0, 9, 0)", FULL);
        // BAD before NOT.
        r.is("web(0, 0, 10)", BAD).is("web(0, 0, 9)", NOT).is("length(0, 0, 3)", BAD).is("length(0, 0, 2)", NOT)
            .is("crosses(0, 4)", BAD).is("crosses(0, 3)", NOT).is("hangs(0, 0, 2)", BAD).is("hangs(0, 0, 1)", NOT)
            .is("pieces(0, 0, 2)", BAD).is("pieces(0, 0, 1)", NOT).is("turned(0, 4)", BAD).is("turned(0, 3)", NOT)
            .is("more(0, 0, 10, 0)", BAD).is("more(0, 0, 0, 0)", NOT).is("last(0, 0, 0, 0)", BAD)
            .is("last(0, 0, 1, 0)", NOT).is("two(0, 0, 0, 0, 0)", BAD).is("two(0, 0, 1, 0, 0)", NOT)
            .is("flies(0, 0, 0, 100)", BAD).is("flies(0, 0, 0, 99)", NOT);
    }

    private static void notIfHidden() {
        terms(11, "In all acts about a WEB (told by a PEG and a LAW) it is NOT, if the PEG is HIDDEN.");
        String[] acts = {"web(P, L, 0)", "length(P, L, 0)", "crosses(P, L)", "hangs(P, L, 2)", "pieces(P, L, 2)",
            "turned(P, L)", "more(P, L, 5, 5)", "last(P, L, 2, 0)", "two(P, L, 2, 0, 0)", "two(2, 0, P, L, 0)",
            "flies(P, L, 7, 9)", "dew(P, L, 0)", "write(P, L, 0)"};
        for (String act : acts) {
            for (int law = 0; law < 4; law++) {
                for (int peg = 0; peg < 5; peg += 4) {
                    String call = act.replace("P", "" + peg).replace("L", "" + law);
                    Run r = run(FIVE).fill(0, 0, 1);
                    long before = r.ask(call);
                    due(call + " before it is HIDDEN is refused", before < NONE ? 1 : 0, 0);
                    r.after(call("hide", peg, 1)).is(call, NOT).after(call("hide", peg, 0)).is(call, before);
                }
            }
        }
    }
}
