/** Boundary cases of promises 1 to 10: a new object, the text, its FAULT, HIDDEN pegs, THREAD and the like, FAR. */
final class EdgesOfPegs extends Edges {
    private static final String FORTY = "0123456789012345678901234567890123456789";

    static void all() {
        newObject();
        firstValues();
        figures();
        typing();
        wiping();
        undoing();
        faultOfAByte();
        faultOfAnEnd();
        faultOfAPlace();
        faultOfAnEleventh();
        noneWithAFault();
        pegs();
        hiding();
        hiddenOnesForSpiders();
        setting();
        reading();
        ways();
    }

    // ---- promise 1

    private static void newObject() {
        of(1, "No PEGS; all SHEETS are LOST.");
        run("").is("count(0)", 0).is("count(1)", 0).is("fault()", NONE).is("peg(0, 0)", BAD).is("web(0, 0, 0)", BAD)
            .is("begin(0)", NONE).is("tells()", NONE).is("count(7)", 0);
        for (int s = 0; s < 4; s++) {
            run("").is(call("lose", s), NULL).is("count(8)", 1);
            run("").is(call("read", s), NULL).is(call("put", s, 0, 0, 0), NULL).is(call("get", s, 0, 0), LEAST)
                .is(call("copy", s, 0, s, 0, 0), NULL).is(call("write", 0, 0, s), BAD);
        }
        of(1, "No PEGS");
        // What one object holds, another one does not.
        run(TEN).fill(0, 0, 1).after("hide(0, 1)", "set(0, 0)", "seen(0, 1, 1)");
        run("").is("count(0)", 0).is("count(1)", 0).is("count(3)", 99).is("count(6)", 0).is("lose(0)", NULL)
            .is("hide(0, 0)", 0);
    }

    private static void firstValues() {
        terms(1, "(bits; none at first)");
        for (int peg = 0; peg < 10; peg++) {
            run("").is(call("hide", peg, 0), 0);
        }
        run(TEN).is("count(2)", 0);
        terms(1, "THREAD (0 to 200; 99 at first)");
        run("").is("count(3)", 99).is("set(0, 0)", 99);
        terms(1, "HUNGER (0 to 9; 0 at first)");
        run("").is("count(4)", 0).is("set(1, 9)", 0);
        terms(1, "REACH (0 to 9; 1 at first)");
        run("").is("count(5)", 1).is("set(2, 9)", 1);
        terms(1, "SHEETS 0 .. 3 are LOST (at first)");
        run("").is("lose(0)", NULL).is("lose(3)", NULL).is("lose(4)", BAD).is("lose(-1)", BAD);
        section(1, "The public face", "public static final int NONE = -1, BAD = -2, NOT = -3, FULL = -4;");
        due("NONE", SpiderLoom.NONE, -1);
        due("BAD", SpiderLoom.BAD, -2);
        due("NOT", SpiderLoom.NOT, -3);
        due("FULL", SpiderLoom.FULL, -4);
        of(33, "(0 before any)");
        run("").is("count(8)", 0);
    }

    // ---- the text

    private static void figures() {
        whatItIs(6, "two figures: x, y (0 to 9 each).");
        run("00").is("fault()", NONE).is("peg(0, 0)", 0).is("peg(0, 1)", 0);
        run("99").is("fault()", NONE).is("peg(0, 0)", 9).is("peg(0, 1)", 9);
        run("09").is("peg(0, 0)", 0).is("peg(0, 1)", 9);
        run("90").is("peg(0, 0)", 9).is("peg(0, 1)", 0);
        // The bytes on either side of the figures.
        run("/0").is("fault()", 0);
        run(":0").is("fault()", 0);
        run("0/").is("fault()", 1);
        run("0:").is("fault()", 1);
        whatItIs(5, "with ; between them");
        run("00;11").is("fault()", NONE).is("count(0)", 2);
        run("00").is("fault()", NONE).is("count(0)", 1);
        run(";00").is("fault()", 0);
        run("0;0").is("fault()", 1);
        run("0011").is("fault()", 2);
        run("00;;11").is("fault()", 3);
        run("00;11;").is("fault()", 6);
        whatItIs(5, "for each, 10 at most (0 on)");
        run("").is("fault()", NONE).is("count(0)", 0);
        run(TEN).is("fault()", NONE).is("count(0)", 10).is("peg(9, 1)", 9).is("peg(10, 1)", BAD);
        run(TEN + ";10").is("fault()", 30).is("count(0)", 0);
    }

    private static void typing() {
        of(2, "A byte (0 to 255) comes behind PEGS: how many.");
        run("").is("type(0)", 1).is("type(255)", 2).is("count(1)", 2);
        of(2, "BAD; FULL.");
        run("").is("type(-1)", BAD).is("type(256)", BAD).is("count(1)", 0).is("fault()", NONE);
        run("").is(call("type", LEAST), BAD).is(call("type", MOST), BAD).is("count(1)", 0);
        // A number whose lowest eight bits are a figure is no byte.
        run("").is(call("type", 256 + '0'), BAD).is(call("type", '0' - 256), BAD).is("count(1)", 0);
        run(FORTY).is("type(48)", FULL).is("type(256)", BAD).is("type(-1)", BAD).is("count(1)", 40);
        whatItIs(2, "PEGS are a text of up to 40 bytes");
        Run r = run("");
        for (int n = 1; n <= 40; n++) {
            r.is("type(120)", n);
        }
        r.is("type(120)", FULL).is("type(120)", FULL).is("count(1)", 40);
        // There is room for one as soon as one is undone.
        r.is("undo()", 39).is("type(0)", 40).is("type(0)", FULL);
        whatItIs(2, "of up to 40 bytes: for each, 10 at most");
        // Ten pegs are 29 bytes: what comes behind them is kept, and can be undone.
        Run ten = run(TEN).type("...........").is("count(1)", 40).is("fault()", 29).is("count(0)", 0);
        for (int left = 39; left >= 29; left--) {
            ten.is("undo()", left);
        }
        ten.is("fault()", NONE).is("count(0)", 10);
    }

    private static void wiping() {
        of(3, "PEGS are empty: how many bytes they had.");
        run("").is("wipe()", 0).is("wipe()", 0);
        run("0").is("wipe()", 1).is("count(1)", 0).is("wipe()", 0);
        run(FORTY).is("wipe()", 40).is("count(1)", 0).is("fault()", NONE).is("undo()", NOT)
            .is("type(48)", 1).is("fault()", 1);
        Run r = run(FORTY).after("wipe()").type(FORTY.substring(1)).is("type(48)", 40).is("type(48)", FULL);
        r.is("wipe()", 40);
        run(TEN).is("wipe()", 29).is("count(0)", 0).is("peg(0, 0)", BAD).is("count(7)", 0);
    }

    private static void undoing() {
        of(4, "The last byte of PEGS is undone: how many are left.");
        Run r = run(FORTY);
        for (int left = 39; left >= 0; left--) {
            r.is("undo()", left);
        }
        r.is("undo()", NOT).is("fault()", NONE);
        run("00;11").is("undo()", 4).is("fault()", 4).is("type(50)", 5).is("peg(1, 1)", 2);
        run("00;00").is("fault()", 4).is("undo()", 4).is("type(49)", 5).is("fault()", NONE).is("count(0)", 2);
        of(4, "NOT: there is none.");
        run("").is("undo()", NOT).is("undo()", NOT).is("count(1)", 0).is("fault()", NONE).is("type(48)", 1);
        run("00").after("wipe()").is("undo()", NOT);
        run("0").is("undo()", 0).is("undo()", NOT);
    }

    // ---- promise 5

    private static void faultOfAByte() {
        terms(5, "The FAULT is the place of the first byte with which it cannot go on");
        for (int b = 0; b < 256; b++) {
            boolean figure = b >= '0' && b <= '9';
            run("").after(call("type", b)).is("fault()", figure ? 1 : 0);
            run("1").after(call("type", b)).is("fault()", figure ? NONE : 1);
            run("11").after(call("type", b)).is("fault()", b == ';' ? 3 : 2);
            run("11;").after(call("type", b)).is("fault()", figure ? 4 : 3);
            run("11;2").after(call("type", b)).is("fault()", figure ? NONE : 4);
        }
        // The first one, whatever stands behind it.
        run("x0;y0").is("fault()", 0);
        run("0x;y0").is("fault()", 1);
        run("00x00;00").is("fault()", 2);
        run(FORTY).is("fault()", 2);
        run(TEN + "0").is("fault()", 29);
        run(NINE + ";0x").is("fault()", 28);
        of(5, "The FAULT; NONE.");
        run("00").is("fault()", NONE);
        run(TEN).is("fault()", NONE);
        run("000").is("fault()", 2).is("undo()", 2).is("fault()", NONE);
        // A byte that no text can begin with does not go away by what comes behind it.
        run("x").is("fault()", 0).type("00;11").is("fault()", 0).is("wipe()", 6).is("fault()", NONE);
    }

    private static void faultOfAnEnd() {
        terms(5, "(an empty text is well; of one that is not ended, its end)");
        run("").is("fault()", NONE);
        run("0").is("undo()", 0).is("fault()", NONE);
        run("0").is("wipe()", 1).is("fault()", NONE);
        run("0").is("fault()", 1);
        run("00;").is("fault()", 3);
        run("00;1").is("fault()", 4);
        run("00;11;").is("fault()", 6);
        run(NINE + ";").is("fault()", 27);
        run(NINE + ";0").is("fault()", 28);
        run(TEN + ";").is("fault()", 30);
    }

    private static void faultOfAPlace() {
        terms(5, "of the y of a PEG that lies where another one does");
        run("00;00").is("fault()", 4).is("count(0)", 0);
        run("00;11;22;11").is("fault()", 10);
        run("12;21").is("fault()", NONE);
        run("00;0").is("fault()", 4);
        run(NINE + ";08").is("fault()", 28);
        run(NINE + ";00").is("fault()", 28);
        run("00;00;00").is("fault()", 4);
        run("00;00x").is("fault()", 4);
        // A hidden one lies there all the same.
        run("").after("hide(0, 1)", "hide(1, 1)").type("55;55").is("fault()", 4);
    }

    private static void faultOfAnEleventh() {
        terms(5, "or of the first byte of an eleventh.");
        run(TEN + ";1").is("fault()", 30);
        run(TEN + ";10").is("fault()", 30);
        run(TEN + ";00").is("fault()", 30);
        run(TEN + ";x").is("fault()", 30);
        run(TEN + ";;").is("fault()", 30);
        run(TEN + ";10;11;12;1").is("fault()", 30).is("count(1)", 40);
        run(TEN + "x10").is("fault()", 29);
        run(NINE + ";00;10").is("fault()", 28);
        // Hidden ones are counted, too.
        run("").after("hide(0, 1)", "hide(9, 1)").type(TEN + ";10").is("fault()", 30);
    }

    private static void noneWithAFault() {
        terms(5, "With a FAULT there are none.");
        String[] texts = {"0", "00;", "00;11;0", "00;00", TEN + ";", "00;11x"};
        for (String text : texts) {
            run(text).is("count(0)", 0).is("count(2)", 0).is("count(7)", 0).is("peg(0, 0)", BAD).is("far(0, 0)", BAD)
                .is("web(0, 0, 0)", BAD).is("length(0, 0, 0)", BAD).is("crosses(0, 0)", BAD).is("hangs(0, 0, 0)", BAD)
                .is("pieces(0, 0, 0)", BAD).is("turned(0, 0)", BAD).is("more(0, 0, 9, 9)", BAD).is("begin(0)", NONE)
                .is("last(0, 0, 1, 0)", BAD).is("two(0, 0, 1, 0, 0)", BAD).is("tells()", NONE)
                .is("flies(0, 0, 0, 0)", BAD).is("fits()", 15);
            run(text).fill(0, 0, 1).after("hide(0, 1)").is("dew(0, 0, 0)", BAD).is("write(0, 0, 0)", BAD)
                .is("count(2)", 0).is("web(0, 0, 0)", BAD);
        }
        run("00;11;").is("undo()", 5).is("count(0)", 2).is("peg(1, 0)", 1);
    }

    // ---- promises 6 to 9

    private static void pegs() {
        of(6, "x (what = 0), y (1) of a PEG; whether it is HIDDEN (2).");
        run("09;90").is("peg(0, 0)", 0).is("peg(0, 1)", 9).is("peg(1, 0)", 9).is("peg(1, 1)", 0).is("peg(1, 2)", 0)
            .after("hide(1, 1)").is("peg(1, 2)", 1).is("peg(0, 2)", 0).is("peg(1, 0)", 9).is("peg(1, 1)", 0);
        run(TEN).after("hide(9, 1)").is("peg(9, 2)", 1).is("peg(8, 2)", 0).is("peg(9, 1)", 9);
        of(6, "BAD.");
        run("09;90").is("peg(2, 0)", BAD).is("peg(-1, 0)", BAD).is("peg(0, 3)", BAD).is("peg(0, -1)", BAD)
            .is(call("peg", MOST, 0), BAD).is(call("peg", LEAST, 0), BAD).is(call("peg", 0, MOST), BAD)
            .is(call("peg", 0, LEAST), BAD);
        run("").is("peg(0, 0)", BAD).is("peg(0, 2)", BAD);
        run(TEN).is("peg(10, 0)", BAD).is("peg(10, 2)", BAD);
        // There is no such peg, though its number is HIDDEN.
        run("09;90").after("hide(2, 1)").is("peg(2, 2)", BAD);
    }

    private static void hiding() {
        of(7, "A PEG (0 to 9, there or not) is HIDDEN (1), or not (0): what it was.");
        run("").is("hide(0, 1)", 0).is("hide(0, 1)", 1).is("hide(0, 0)", 1).is("hide(0, 0)", 0);
        run("").is("hide(9, 1)", 0).is("hide(9, 1)", 1).is("hide(8, 0)", 0).is("hide(9, 0)", 1).is("hide(9, 0)", 0);
        run("").after("hide(1, 1)").type("00;01;05").is("peg(1, 2)", 1).is("count(2)", 1).web(0, 0, "02");
        run("00;01;05").after("hide(1, 1)", "wipe()").is("count(2)", 0).type("00;01;05").is("count(2)", 1);
        of(7, "BAD.");
        run(TEN).is("hide(10, 1)", BAD).is("hide(-1, 1)", BAD).is("hide(0, 2)", BAD).is("hide(0, -1)", BAD)
            .is("hide(32, 1)", BAD).is(call("hide", LEAST, 1), BAD).is(call("hide", MOST, 1), BAD)
            .is(call("hide", 0, LEAST), BAD).is(call("hide", 0, MOST), BAD).is("count(2)", 0);
    }

    private static void hiddenOnesForSpiders() {
        terms(7, "HIDDEN PEGS (bits; none at first) are as if they were not there for spiders.");
        Run r = run("00;01;02;09").after("hide(1, 1)");
        r.web(0, 0, "023").web(0, 1, "032").web(0, 2, "023").web(0, 3, "023");
        r.is("two(0, 2, 3, 2, 0)", 2).is("two(0, 2, 3, 2, 1)", 1).is("two(0, 2, 3, 2, 2)", 2);
        r.is("last(0, 2, 2, 1)", 8).is("begin(0)", 0).is("more(0, 0, 0, 3)", 9);
        // For all that is no spider they are there.
        r.is("count(0)", 4).is("far(0, 1)", 1).is("peg(1, 1)", 1).is("count(7)", 1 + 2 + 9 + 1 + 8 + 7)
            .is("more(0, 0, 0, 1)", NOT);
        // All but one: she has no PEG to go to.
        run("00;01;02").after("hide(0, 1)", "hide(2, 1)").web(1, 0, "1").web(1, 1, "1").web(1, 2, "1").web(1, 3, "1");
        // All: she can begin nowhere.
        run("00;01").after("hide(0, 1)", "hide(1, 1)").is("begin(0)", NONE).is("tells()", NONE)
            .is("web(0, 0, 0)", NOT).is("web(1, 0, 0)", NOT).is("count(2)", 2).is("count(0)", 2);
    }

    private static void setting() {
        of(8, "THREAD (what = 0), HUNGER (1), REACH (2): what it was.");
        run("").is("set(0, 200)", 99).is("set(0, 0)", 200).is("set(0, 1)", 0).is("count(3)", 1);
        run("").is("set(1, 9)", 0).is("set(1, 0)", 9).is("set(1, 1)", 0).is("count(4)", 1);
        run("").is("set(2, 9)", 1).is("set(2, 0)", 9).is("set(2, 1)", 0).is("count(5)", 1);
        // None of them is another one.
        run("").after("set(0, 7)", "set(1, 8)", "set(2, 9)").is("count(3)", 7).is("count(4)", 8).is("count(5)", 9);
        of(8, "BAD.");
        int[] most = {200, 9, 9};
        int[] first = {99, 0, 1};
        for (int what = 0; what < 3; what++) {
            run("").is(call("set", what, most[what] + 1), BAD).is(call("set", what, -1), BAD)
                .is(call("set", what, MOST), BAD).is(call("set", what, LEAST), BAD)
                .is(call("count", 3 + what), first[what]);
        }
        run("").is("set(3, 0)", BAD).is("set(-1, 0)", BAD).is(call("set", MOST, 0), BAD)
            .is(call("set", LEAST, 0), BAD);
    }

    private static void reading() {
        of(9, "HIDDEN of PEGS 0 on by a SHEET, item by item (1, 0), up to the first that is neither, ten at most: "
            + "how many.");
        run("").fill(0, 0).is("read(0)", 0);
        run(TEN).after("hide(4, 1)").fill(0, 0).is("read(0)", 0).is("count(2)", 1);
        run(TEN).fill(0, 1, 1).is("read(0)", 1).is("count(2)", 1).is("peg(0, 2)", 1);
        run(TEN).fill(0, 2, 1, 1, 1, 1, 1, 1, 1, 1, 1).is("read(0)", 9).is("peg(8, 2)", 1).is("peg(9, 2)", 0);
        run(TEN).fill(0, 2, 1, 1, 1, 1, 1, 1, 1, 1, 1, 1).is("read(0)", 10).is("count(2)", 10);
        run(TEN).fill(0, 0, 1, 0, 1, 0, 1, 0, 1, 0, 1, 0, 1, 1).is("read(0)", 10).is("count(2)", 5)
            .is("peg(9, 2)", 0).is("peg(8, 2)", 1);
        run(TEN).after("sheet(3, 0, 48)", "hide(9, 1)").is("read(3)", 10).is("count(2)", 0);
        // Behind the last item all stays as it was, whatever an earlier row had there.
        run(TEN).after("hide(1, 1)").fill(0, 0, 1).is("read(0)", 1).is("peg(1, 2)", 1).is("count(2)", 2);
        run(TEN).fill(0, 0, 0, 1, 1).fill(0, 0, 1).is("read(0)", 1).is("peg(1, 2)", 0).is("count(2)", 1);
        // An eleventh that is neither is not looked at; a tenth is.
        run(TEN).fill(0, 0, 1, 1, 1, 1, 1, 1, 1, 1, 1, 1, 5).is("read(0)", 10);
        run(TEN).fill(0, 0, 1, 1, 1, 1, 1, 1, 1, 1, 1, 2).is("read(0)", 9).is("count(2)", 9);
        of(9, "up to the first that is neither");
        run(TEN).fill(0, 0, 2, 1).is("read(0)", 0).is("count(2)", 0);
        run(TEN).fill(0, 0, -1, 1).is("read(0)", 0).is("count(2)", 0);
        run(TEN).after("hide(1, 1)", "hide(2, 1)").fill(0, 2, 1, 0, MOST, 1).is("read(0)", 2).is("peg(0, 2)", 1)
            .is("peg(1, 2)", 0).is("peg(2, 2)", 1).is("peg(3, 2)", 0);
        // 257 is neither as a short; as a byte it became 1.
        run(TEN).fill(0, 1, 257).is("read(0)", 0);
        run(TEN).fill(0, 0, 257).is("read(0)", 1).is("peg(0, 2)", 1);
        of(9, "BAD; NULL.");
        run("").is("read(4)", BAD).is("read(-1)", BAD).is(call("read", MOST), BAD).is(call("read", LEAST), BAD)
            .is("count(8)", 0).is("read(3)", NULL).is("count(8)", 1);
        run("").fill(1, 0, 1).after("lose(1)").is("read(1)", NULL).is("hide(0, 0)", 0);
    }

    // ---- promise 10

    private static void ways() {
        terms(10, "FAR: from PEG to PEG it is as far as both numbers differ, together.");
        run("00;99").is("far(0, 1)", 18).is("far(1, 0)", 18).is("far(0, 0)", 0).is("far(1, 1)", 0);
        run("09;90").is("far(0, 1)", 18).is("far(1, 0)", 18);
        run("00;09;90;01").is("far(0, 1)", 9).is("far(0, 2)", 9).is("far(0, 3)", 1).is("far(3, 2)", 10);
        run(TEN).is("far(0, 9)", 9).is("far(9, 0)", 9).is("far(9, 9)", 0);
        of(10, "FAR.");
        // HIDDEN or not, it is as far.
        run("00;99").after("hide(0, 1)", "hide(1, 1)").is("far(0, 1)", 18);
        of(10, "BAD.");
        run("00;99").is("far(2, 0)", BAD).is("far(0, 2)", BAD).is("far(-1, 0)", BAD).is("far(0, -1)", BAD)
            .is(call("far", MOST, 0), BAD).is(call("far", 0, LEAST), BAD);
        run(TEN).is("far(10, 0)", BAD).is("far(0, 10)", BAD);
        run("").is("far(0, 0)", BAD);
    }
}
