/** Boundary cases of promises 11 to 17: webs, what they cost, cross, bear and become. */
final class EdgesOfWebs extends Edges {
    /** By numbers the ways are 18, 17, 16, 16, 16, 15, 14, 14, 14: 140 together. */
    private static final String TO_AND_FRO = "00;99;01;98;10;89;11;88;02;97";

    static void all() {
        beginning();
        nearestAndFarthest();
        byNumbers();
        byRows();
        asLongAsThereIsOne();
        enoughThread();
        hunger();
        ithPeg();
        lengths();
        crossing();
        endsCounted();
        hanging();
        falling();
        turning();
        oneMore();
        oneMoreIsNot();
    }

    // ---- promise 11

    private static void beginning() {
        terms(11, "A spider begins at a PEG (not HIDDEN), and goes on, by her LAW, to PEGS to which she has not "
            + "been: ");
        run("55").web(0, 0, "0").web(0, 1, "0").web(0, 2, "0").web(0, 3, "0");
        run("55;56").web(0, 0, "01").web(0, 1, "01").web(1, 2, "10").web(1, 3, "10");
        run(TEN).web(9, 0, "9876543210").web(0, 1, "0918273645");
        run("55;56").after("hide(0, 1)").is("web(0, 0, 0)", NOT).web(1, 0, "1");
    }

    private static void nearestAndFarthest() {
        terms(11, "0 to the nearest, 1 to the farthest (of like ones each the least number)");
        // From the midst all four are like; from each of these the three others are, and farther than the midst.
        Run r = run("44;54;45;34;43").web(0, 0, "01234").web(0, 1, "01234").web(1, 1, "12340").web(4, 1, "41230");
        r.after("hide(1, 1)").web(0, 0, "0234").web(0, 1, "0234");
        run("54;45;34;43;44").web(4, 0, "40123").web(4, 1, "40123");
        // Nearer by one is nearer, whatever the number.
        run("00;03;02").web(0, 0, "021").web(0, 1, "012");
        run("00;30;02").web(0, 0, "021").web(0, 1, "012");
    }

    private static void byNumbers() {
        terms(11, "2 to the next one by numbers (behind the last one PEG 0 comes)");
        run(TEN).web(0, 2, "0123456789").web(9, 2, "9012345678").web(5, 2, "5678901234").web(1, 2, "1234567890");
        Run r = run(TEN).after("hide(0, 1)").web(9, 2, "912345678").web(8, 2, "891234567");
        r.after("hide(9, 1)").web(8, 2, "81234567").web(7, 2, "78123456");
        run("00;99").web(1, 2, "10");
    }

    private static void byRows() {
        terms(11, "3 to the next one by rows: by y, then by x (behind the last one the first comes)");
        // The rows are 1 2, then 3 0.
        Run r = run("99;00;90;09").web(1, 3, "1230").web(2, 3, "2301").web(3, 3, "3012").web(0, 3, "0123");
        r.after("hide(1, 1)").web(0, 3, "023").web(3, 3, "302");
        // By y first: 10 comes before 01.
        run("55;10;01").web(0, 3, "012").web(2, 3, "201").web(1, 3, "120");
        // In one row by x, the numbers aside.
        run("90;50;00").web(2, 3, "210").web(0, 3, "021");
        run("90;01").web(0, 3, "01").web(1, 3, "10");
    }

    private static void asLongAsThereIsOne() {
        terms(11, ", as long as there is one, and her");
        run(TEN).is("web(0, 0, 9)", 9).is("length(0, 0, 1)", 10);
        run("37").is("length(0, 0, 1)", 1).is("length(0, 0, 0)", 0).is("length(0, 0, 2)", 99);
        run(TEN).after("hide(9, 1)").is("length(0, 0, 1)", 9).is("web(0, 0, 9)", NONE);
    }

    private static void enoughThread() {
        terms(11, "THREAD (0 to 200; 99 at first) is enough for the way to it");
        run("00;99").after("set(0, 18)").web(0, 0, "01").is("length(0, 0, 2)", 0);
        run("00;99").after("set(0, 17)").web(0, 0, "0").is("length(0, 0, 2)", 17);
        run("00;01").after("set(0, 1)").web(0, 0, "01");
        run("00;01").after("set(0, 0)").web(0, 0, "0").web(1, 3, "1").is("length(0, 0, 2)", 0);
        // 98 are enough for seven, 99 not for eight: 112.
        run(TO_AND_FRO).web(0, 2, "0123456").is("length(0, 2, 0)", 98).is("length(0, 2, 2)", 1);
        run(TO_AND_FRO).after("set(0, 98)").web(0, 2, "0123456").is("length(0, 2, 2)", 0);
        run(TO_AND_FRO).after("set(0, 97)").web(0, 2, "012345").is("length(0, 2, 2)", 14);
        run(TO_AND_FRO).after("set(0, 140)").web(0, 2, "0123456789").is("length(0, 2, 2)", 0);
        run(TO_AND_FRO).after("set(0, 139)").web(0, 2, "012345678").is("length(0, 2, 2)", 13);
        run(TO_AND_FRO).after("set(0, 200)").web(0, 2, "0123456789").is("length(0, 2, 2)", 60);
        // Her law tells one PEG; where that is too far she ends, though another one were near enough.
        run("00;09;01").after("set(0, 8)").web(0, 1, "0").web(0, 2, "0").web(0, 0, "02");
    }

    private static void hunger() {
        terms(11, " and HUNGER (0 to 9; 0 at first), which are taken off it.");
        run("00;01").after("set(1, 9)", "set(0, 10)").web(0, 0, "01").is("length(0, 0, 2)", 0);
        run("00;01").after("set(1, 9)", "set(0, 9)").web(0, 0, "0").is("length(0, 0, 2)", 9);
        run("00;01;02").after("set(1, 9)", "set(0, 20)").web(0, 0, "012").is("length(0, 0, 2)", 0);
        run("00;01;02").after("set(1, 9)", "set(0, 19)").web(0, 0, "01").is("length(0, 0, 2)", 9);
        // The first PEG costs none.
        run("00").after("set(1, 9)", "set(0, 0)").web(0, 0, "0").is("length(0, 0, 2)", 0);
        // 27, 26, 25, 25, 25, 24, 23, 23 are 198; there would be 23 more.
        run(TO_AND_FRO).after("set(1, 9)", "set(0, 200)").web(0, 2, "012345678").is("length(0, 2, 2)", 2);
        terms(12, "So her WEB is a row of PEGS; its LENGTH is how far it is along it, without HUNGER.");
        run(TO_AND_FRO).after("set(1, 9)", "set(0, 200)").is("length(0, 2, 0)", 126).is("length(0, 2, 1)", 9);
        run("00;99").after("set(1, 9)", "set(0, 27)").is("length(0, 0, 0)", 18).is("length(0, 0, 2)", 0);
        run("00;99").after("set(1, 9)", "set(0, 26)").is("length(0, 0, 0)", 0).is("length(0, 0, 2)", 26);
    }

    private static void ithPeg() {
        of(11, "The i-th PEG (0 to 9) of a WEB; NONE: it has fewer.");
        run(TEN).is("web(3, 2, 0)", 3).is("web(3, 2, 9)", 2);
        run("00;11;22").is("web(0, 0, 0)", 0).is("web(0, 0, 2)", 2).is("web(0, 0, 3)", NONE).is("web(0, 0, 9)", NONE);
        run("00").is("web(0, 0, 0)", 0).is("web(0, 0, 1)", NONE);
        run(NINE).is("web(0, 0, 8)", 8).is("web(0, 0, 9)", NONE);
        of(11, "BAD; NOT.");
        run("00;11").is("web(0, 0, 10)", BAD).is("web(0, 0, -1)", BAD).is("web(0, 4, 0)", BAD).is("web(0, -1, 0)", BAD)
            .is("web(2, 0, 0)", BAD).is("web(-1, 0, 0)", BAD).after("hide(0, 1)").is("web(0, 0, 0)", NOT)
            .is("web(0, 0, 9)", NOT).is("web(0, 0, 10)", BAD).is("web(0, 4, 0)", BAD).is("web(1, 0, 0)", 1);
        run("00;11").after("hide(2, 1)").is("web(2, 0, 0)", BAD);
    }

    // ---- promise 12

    private static void lengths() {
        of(12, "LENGTH (what = 0), how many PEGS (1), what is left of THREAD (2).");
        run("00").is("length(0, 0, 0)", 0).is("length(0, 0, 1)", 1).is("length(0, 0, 2)", 99);
        run("00").after("set(0, 0)").is("length(0, 0, 2)", 0);
        run("00").after("set(0, 200)").is("length(0, 0, 2)", 200);
        run(TEN).after("set(0, 9)").is("length(0, 0, 0)", 9).is("length(0, 0, 1)", 10).is("length(0, 0, 2)", 0);
        run(TEN).after("set(0, 8)").is("length(0, 0, 0)", 8).is("length(0, 0, 1)", 9).is("length(0, 0, 2)", 0);
        // Each call has all the THREAD again.
        run(TEN).is("length(0, 0, 2)", 90).is("length(0, 0, 2)", 90).is("count(3)", 99);
        of(12, "BAD; NOT.");
        run("00;11").is("length(0, 0, 3)", BAD).is("length(0, 0, -1)", BAD).is("length(0, 4, 0)", BAD)
            .is("length(0, -1, 0)", BAD).is("length(2, 0, 0)", BAD).is("length(-1, 0, 0)", BAD).after("hide(1, 1)")
            .is("length(1, 0, 0)", NOT).is("length(1, 3, 2)", NOT).is("length(1, 0, 3)", BAD)
            .is("length(1, 4, 0)", BAD);
    }

    // ---- promise 13

    private static void crosses(String text, int want) {
        run(text).after("set(0, 200)").is("crosses(0, 2)", want);
    }

    private static void crossing() {
        terms(13, "CROSSES: pairs of threads (from a PEG of the WEB to the next one) that are not side by side in it "
            + "and have a point in common, as straight pieces from PEG to PEG");
        crosses("00", 0);
        crosses("00;99", 0);
        // Of three there are but threads side by side, even one upon the other.
        crosses("00;99;09", 0);
        crosses("00;06;03", 0);
        crosses("00;99;09;90", 1);
        crosses("00;90;99;09", 0);
        run("00;99;09;90").after("set(0, 45)").is("crosses(0, 2)", 1);
        run("00;99;09;90").after("set(0, 44)").is("crosses(0, 2)", 0);
        run("00;99;09;90").after("hide(3, 1)").is("crosses(0, 2)", 0);
        of(13, "CROSSES.");
        // The most: nine threads in one line, each within all before it; 36 pairs, of which 8 are side by side.
        crosses("00;09;01;08;02;07;03;06;04;05", 28);
        crosses(TEN, 0);
        run(TEN).is("crosses(0, 1)", 28).is("crosses(9, 1)", 28);
        of(13, "BAD; NOT.");
        run("00;99").is("crosses(2, 0)", BAD).is("crosses(-1, 0)", BAD).is("crosses(0, 4)", BAD)
            .is("crosses(0, -1)", BAD).after("hide(0, 1)").is("crosses(0, 0)", NOT).is("crosses(0, 4)", BAD);
        run("").is("crosses(0, 0)", BAD);
    }

    private static void endsCounted() {
        terms(13, ", ends counted: how many.");
        // An end upon the other thread, from below and from above, the first and the later one; then beside it.
        crosses("00;99;90;88", 1);
        crosses("00;99;90;87", 0);
        crosses("00;99;09;88", 1);
        crosses("00;99;09;78", 0);
        crosses("88;90;99;00", 1);
        crosses("87;90;99;00", 0);
        crosses("00;08;44;04", 1);
        crosses("00;08;44;14", 0);
        // In one line: ends within, one within the other, one behind the other; along x, along y, aslant both ways.
        crosses("00;04;02;06", 1);
        crosses("00;06;02;04", 1);
        crosses("00;02;03;05", 0);
        crosses("00;40;20;60", 1);
        crosses("00;20;30;50", 0);
        crosses("00;44;22;66", 1);
        crosses("00;22;33;55", 0);
        crosses("09;45;27;63", 1);
        crosses("09;27;36;54", 0);
        // Side by side lines, as near as can be, have no point in common.
        crosses("00;90;91;01", 0);
        crosses("00;98;99;01", 0);
    }

    // ---- promises 14 and 15

    private static void hanging() {
        terms(14, "HANGS of a PEG: how many threads of the WEB end at it.");
        run("00").is("hangs(0, 0, 0)", 0);
        run("00;01").is("hangs(0, 0, 0)", 1).is("hangs(0, 0, 1)", 1).after("set(0, 0)").is("hangs(0, 0, 0)", 0)
            .is("hangs(0, 0, 1)", 0);
        run("00;01;02").is("hangs(0, 2, 0)", 1).is("hangs(0, 2, 1)", 2).is("hangs(0, 2, 2)", 1)
            .is("hangs(1, 2, 1)", 1).is("hangs(1, 2, 2)", 2).is("hangs(1, 2, 0)", 1);
        run(TEN).is("hangs(0, 0, 9)", 1).is("hangs(0, 0, 8)", 2).is("hangs(0, 0, 0)", 1);
        // A thread that goes over a PEG does not end at it.
        run("00;02;01").after("set(0, 2)").is("hangs(0, 2, 2)", 0);
        of(14, "HANGS of a PEG.");
        run("00;01;02").after("hide(1, 1)").is("hangs(0, 2, 1)", 0).is("hangs(0, 2, 2)", 1);
        of(14, "BAD; NOT.");
        run("00;01").is("hangs(0, 0, 2)", BAD).is("hangs(0, 0, -1)", BAD).is("hangs(2, 0, 0)", BAD)
            .is("hangs(-1, 0, 0)", BAD).is("hangs(0, 4, 0)", BAD).is("hangs(0, -1, 0)", BAD).after("hide(0, 1)")
            .is("hangs(0, 0, 1)", NOT).is("hangs(0, 0, 0)", NOT).is("hangs(0, 0, 2)", BAD).is("hangs(0, 4, 0)", BAD);
        run(TEN).is("hangs(0, 0, 10)", BAD);
    }

    private static void falling() {
        terms(15, "PIECES without a PEG: into how many rows of PEGS the WEB falls, if it is taken out "
            + "(1 at one of its ends, or if it is not of it; 0 if it was all).");
        run("00;01;02").is("pieces(0, 2, 0)", 1).is("pieces(0, 2, 1)", 2).is("pieces(0, 2, 2)", 1);
        run("00;01").is("pieces(0, 2, 0)", 1).is("pieces(0, 2, 1)", 1);
        run("00").is("pieces(0, 2, 0)", 0);
        run("00;01").after("set(0, 0)").is("pieces(0, 2, 0)", 0).is("pieces(0, 2, 1)", 1);
        run("00;01").after("hide(1, 1)").is("pieces(0, 2, 0)", 0).is("pieces(0, 2, 1)", 1);
        run(TEN).is("pieces(0, 0, 0)", 1).is("pieces(0, 0, 1)", 2).is("pieces(0, 0, 8)", 2).is("pieces(0, 0, 9)", 1);
        of(15, "PIECES without a PEG.");
        run(TEN).after("set(0, 8)").is("pieces(0, 0, 9)", 1).is("pieces(0, 0, 8)", 1).is("pieces(0, 0, 7)", 2);
        of(15, "BAD; NOT.");
        run("00;01").is("pieces(0, 0, 2)", BAD).is("pieces(0, 0, -1)", BAD).is("pieces(2, 0, 0)", BAD)
            .is("pieces(-1, 0, 0)", BAD).is("pieces(0, 4, 0)", BAD).is("pieces(0, -1, 0)", BAD).after("hide(0, 1)")
            .is("pieces(0, 0, 1)", NOT).is("pieces(0, 0, 0)", NOT).is("pieces(0, 0, 2)", BAD)
            .is("pieces(0, -1, 0)", BAD);
        run(TEN).is("pieces(0, 0, 10)", BAD);
    }

    // ---- promise 16

    private static void turning() {
        terms(16, "TURNED: all PEGS turned by a quarter (x becomes 9 less y, y becomes x): whether the WEB is the same "
            + "row: 1, 0.");
        run("00").is("turned(0, 0)", 1).is("turned(0, 3)", 1);
        run("00;99").is("turned(0, 3)", 1).is("turned(1, 3)", 1);
        // The corners by rows are 0 1 2 3; turned they are 2 0 3 1.
        Run corners = run("00;90;09;99");
        for (int law = 0; law < 3; law++) {
            for (int peg = 0; peg < 4; peg++) {
                corners.is(call("turned", peg, law), 1);
            }
        }
        for (int peg = 0; peg < 4; peg++) {
            corners.is(call("turned", peg, 3), 0);
        }
        // A row comes to be a column downwards, and stays the same row; a column comes to be a row leftwards.
        run("04;24;44").is("turned(0, 3)", 1).is("turned(1, 3)", 1).is("turned(2, 3)", 1);
        run("40;42;44").is("turned(0, 3)", 0).is("turned(1, 3)", 0).is("turned(2, 3)", 0);
        run("40;42;44").after("hide(0, 1)").is("turned(1, 3)", 1).is("turned(2, 3)", 1);
        of(16, "TURNED.");
        // Without THREAD each WEB is one PEG; with some of it, it ends where the turned one goes on.
        run("40;42;44").after("set(0, 1)").is("turned(1, 3)", 1);
        run("00;01;09").after("set(0, 8)").is("turned(1, 3)", 0).web(1, 3, "12");
        // One that ends sooner is not the same row: 1 and 10, 10 and 1.
        run("00;01;09").after("set(0, 7)").web(1, 3, "1").is("turned(1, 3)", 0);
        run("09;08;00").after("set(0, 7)").web(1, 3, "10").is("turned(1, 3)", 0);
        run(TEN).is("turned(0, 0)", 1).is("turned(9, 3)", 0);
        // The PEGS are not turned by it.
        run("40;42").after("turned(0, 3)").is("peg(0, 0)", 4).is("peg(0, 1)", 0).is("fault()", NONE);
        of(16, "BAD; NOT.");
        run("00;01").is("turned(2, 0)", BAD).is("turned(-1, 0)", BAD).is("turned(0, 4)", BAD).is("turned(0, -1)", BAD)
            .after("hide(1, 1)").is("turned(1, 0)", NOT).is("turned(1, 4)", BAD).is("turned(0, 0)", 1);
        run("").is("turned(0, 0)", BAD);
    }

    // ---- promise 17

    private static void oneMore() {
        terms(17, "MORE: the LENGTH of the WEB, were there a PEG more at a place (its number behind all; HIDDEN, if "
            + "that number is).");
        run("00").is("more(0, 0, 9, 9)", 18).is("more(0, 0, 0, 9)", 9).is("more(0, 0, 9, 0)", 9)
            .is("more(0, 0, 0, 1)", 1);
        run("99").is("more(0, 0, 0, 0)", 18);
        run(NINE).is("more(0, 0, 0, 9)", 9).is("more(0, 2, 9, 9)", 8 + 10).is("more(8, 2, 0, 9)", 1 + 9 + 7);
        run(NINE).after("hide(9, 1)").is("more(0, 0, 0, 9)", 8).is("more(8, 2, 0, 9)", 8 + 7);
        run(NINE).after("hide(8, 1)").is("more(0, 0, 0, 9)", 9);
        run("00;04").after("hide(2, 1)").is("more(0, 2, 0, 2)", 4).after("hide(2, 0)").is("more(0, 2, 0, 2)", 6);
        of(17, "MORE.");
        // Just enough THREAD for it, and one too little.
        run("00;04").after("set(0, 6)").is("more(0, 2, 0, 2)", 6).after("set(0, 5)").is("more(0, 2, 0, 2)", 4);
        // It may shorten the WEB: she goes to it, and then has too little left.
        run("00;04").after("set(0, 4)").is("more(0, 0, 3, 0)", 3).is("length(0, 0, 0)", 4);
        // No PEG has come by it.
        run("00;04").after("more(0, 0, 5, 5)").is("count(0)", 2).is("peg(2, 0)", BAD).is("count(1)", 5)
            .is("more(0, 0, 0, 8)", 8);
    }

    private static void oneMoreIsNot() {
        of(17, "NOT: also where a PEG lies there, or there are ten.");
        run("00;99").is("more(0, 0, 0, 0)", NOT).is("more(0, 0, 9, 9)", NOT).is("more(1, 0, 0, 0)", NOT)
            .is("more(0, 0, 0, 9)", 9 + 9);
        run("00;99").after("hide(1, 1)").is("more(0, 0, 9, 9)", NOT).is("more(1, 0, 5, 5)", NOT);
        run(TEN).is("more(0, 0, 5, 5)", NOT).is("more(0, 0, 0, 0)", NOT);
        run(TEN).after("hide(9, 1)").is("more(0, 0, 5, 5)", NOT);
        of(17, "BAD; NOT");
        run("00;99").is("more(0, 0, 10, 0)", BAD).is("more(0, 0, -1, 0)", BAD).is("more(0, 0, 0, 10)", BAD)
            .is("more(0, 0, 0, -1)", BAD).is("more(2, 0, 5, 5)", BAD).is("more(-1, 0, 5, 5)", BAD)
            .is("more(0, 4, 5, 5)", BAD).is("more(0, -1, 5, 5)", BAD).after("hide(0, 1)").is("more(0, 0, 5, 5)", NOT)
            .is("more(0, 0, 5, 10)", BAD).is("more(0, 4, 0, 0)", BAD);
        run(TEN).is("more(0, 0, 5, 10)", BAD).is("more(10, 0, 5, 5)", BAD);
        run("").is("more(0, 0, 5, 5)", BAD);
    }
}
