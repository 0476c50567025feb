/** Boundary cases of promises 18 to 20: from which peg, without which, two on one frame. */
final class EdgesOfWhich extends Edges {
    static void all() {
        mostPegs();
        beginNone();
        fewest();
        leastBits();
        endsAtThread();
        lastRefused();
        twoInTurn();
        twoStay();
        lastStep();
        twoRefused();
    }

    // ---- promise 18

    private static void mostPegs() {
        terms(18, "BEGIN of a LAW: the PEG (not HIDDEN) from which her WEB has most PEGS, of like ones the least "
            + "LENGTH, of like ones the least");
        run("55").is("begin(0)", 0).is("begin(3)", 0);
        // By the nearest: of two PEGS from 1, with LENGTH 4; of three from 0 and 2, with 9.
        run("00;05;09").after("set(0, 9)").is("begin(0)", 0).after("set(0, 8)").is("begin(0)", 1);
        run("00;05;09").after("set(0, 9)", "hide(0, 1)").is("begin(0)", 1).after("hide(1, 1)").is("begin(0)", 2);
        // LENGTHS 13, 9, 9.
        run("05;00;09").is("begin(0)", 1).after("hide(1, 1)").is("begin(0)", 0);
        // Without THREAD all are like.
        run(TEN).after("set(0, 0)").is("begin(0)", 0).is("begin(1)", 0).is("begin(2)", 0).is("begin(3)", 0)
            .after("hide(0, 1)").is("begin(0)", 1);
        // The last one alone is left.
        Run last = run(TEN).fill(0, 0, 1, 1, 1, 1, 1, 1, 1, 1, 1).after("read(0)");
        last.is("begin(0)", 9).is("begin(1)", 9).is("begin(2)", 9).is("begin(3)", 9);
        // By numbers all ten are 9 from 0, more from the others; nine of them are 8 from 0 and from 1.
        run(TEN).after("set(0, 9)").is("begin(2)", 0).after("set(0, 8)").is("begin(2)", 0);
        of(18, "BEGIN; NONE.");
        run(TEN).is("begin(0)", 0).is("begin(2)", 0).is("begin(3)", 0);
    }

    private static void beginNone() {
        terms(18, "; NONE: there are no such PEGS.");
        run("").is("begin(0)", NONE).is("begin(3)", NONE);
        run("00;").is("begin(0)", NONE);
        run("00;01").after("hide(0, 1)", "hide(1, 1)").is("begin(0)", NONE).is("begin(3)", NONE)
            .after("hide(1, 0)").is("begin(0)", 1);
        of(18, "BAD.");
        run("00").is("begin(4)", BAD).is("begin(-1)", BAD).is(call("begin", MOST), BAD).is(call("begin", LEAST), BAD);
        run("").is("begin(4)", BAD).is("begin(-1)", BAD);
        run("00").after("hide(0, 1)").is("begin(4)", BAD);
    }

    // ---- promise 19

    private static void last(Run r, int peg, int law, int end, int many, int bits) {
        r.is(call("last", peg, law, end, 0), many).is(call("last", peg, law, end, 1), bits);
    }

    private static void fewest() {
        terms(19, "LAST: the fewest PEGS (neither where she begins nor the told one, not HIDDEN) that are to be "
            + "HIDDEN, too, so that the WEB ends at a told PEG");
        Run ten = run(TEN);
        // None, one, and all that there are.
        last(ten, 0, 2, 9, 0, 0);
        last(ten, 0, 2, 8, 1, 512);
        last(ten, 0, 2, 1, 8, 1020);
        last(ten, 9, 2, 0, 8, 510);
        last(ten, 1, 2, 0, 0, 0);
        last(ten, 1, 2, 9, 1, 1);
        last(run("00;01"), 0, 0, 1, 0, 0);
        last(run("00;01"), 1, 3, 0, 0, 0);
        // One that is HIDDEN already is none of them.
        last(run(TEN).after("hide(9, 1)"), 0, 2, 8, 0, 0);
        last(run(TEN).after("hide(9, 1)"), 0, 2, 7, 1, 256);
        last(run(TEN).after("hide(5, 1)"), 0, 2, 1, 7, 1020 - 32);
        run(TEN).after("hide(9, 1)", "last(0, 2, 1, 1)").is("count(2)", 1).is("peg(2, 2)", 0);
        of(19, "LAST: how many (what = 0), as bits (1); NONE.");
        last(run("00;01;02"), 0, 2, 1, 1, 4);
    }

    private static void leastBits() {
        terms(19, ", of like ones the least bits: how many; as bits; NONE.");
        // By numbers 8 are needed; without 1 or without 2 there are 4, without both 4.
        Run like = run("00;20;02;22").after("set(0, 7)");
        last(like, 0, 2, 3, 1, 2);
        like.after("set(0, 8)");
        last(like, 0, 2, 3, 0, 0);
        like.after("set(0, 4)");
        last(like, 0, 2, 3, 1, 2);
        like.after("set(0, 3)");
        last(like, 0, 2, 3, NONE, NONE);
        // Fewer come before less bits: without 3 it is 0214; without 1 and 2, whose bits are less, 034 ends there, too.
        last(run("45;01;20;74;79").web(0, 0, "03421"), 0, 0, 4, 1, 8);
    }

    private static void endsAtThread() {
        terms(19, "so that the WEB ends at a told PEG");
        // THREAD ends it there.
        Run r = run("00;01;05").after("set(0, 4)");
        last(r, 0, 2, 1, 0, 0);
        last(r, 0, 2, 2, NONE, NONE);
        r.after("set(0, 5)");
        last(r, 0, 2, 2, 0, 0);
        last(r, 0, 2, 1, 1, 4);
        // Too far, even for a WEB of both alone.
        last(run("00;99").after("set(0, 17)"), 0, 0, 1, NONE, NONE);
        last(run("00;99").after("set(0, 18)"), 0, 0, 1, 0, 0);
        last(run("00;99").after("set(0, 18)", "set(1, 1)"), 0, 0, 1, NONE, NONE);
        last(run("00;99").after("set(0, 0)"), 0, 0, 1, NONE, NONE);
    }

    private static void lastRefused() {
        of(19, "BAD: also where both are one; NOT: one is HIDDEN.");
        run("00;01;02").is("last(1, 0, 1, 0)", BAD).is("last(0, 0, 0, 1)", BAD).is("last(3, 0, 1, 0)", BAD)
            .is("last(-1, 0, 1, 0)", BAD).is("last(0, 0, 3, 0)", BAD).is("last(0, 0, -1, 0)", BAD)
            .is("last(0, 4, 1, 0)", BAD).is("last(0, -1, 1, 0)", BAD).is("last(0, 0, 1, 2)", BAD)
            .is("last(0, 0, 1, -1)", BAD).is("last(3, 0, 3, 0)", BAD);
        Run r = run("00;01;02").after("hide(1, 1)").is("last(1, 0, 0, 0)", NOT).is("last(0, 0, 1, 0)", NOT)
            .is("last(0, 0, 1, 1)", NOT).is("last(1, 0, 1, 0)", BAD).is("last(1, 0, 0, 2)", BAD)
            .is("last(1, 4, 0, 0)", BAD).is("last(1, 0, 3, 0)", BAD).is("last(3, 0, 1, 0)", BAD)
            .is("last(0, 0, 2, 0)", 0);
        r.after("hide(0, 1)").is("last(0, 0, 1, 0)", NOT).is("last(1, 0, 0, 0)", NOT);
        run("").is("last(0, 0, 1, 0)", BAD);
        run("00").is("last(0, 0, 1, 0)", BAD);
    }

    // ---- promise 20

    private static void two(Run r, String told, int first, int second, int step) {
        r.is("two(" + told + ", 0)", first).is("two(" + told + ", 1)", second).is("two(" + told + ", 2)", step);
    }

    private static void twoInTurn() {
        terms(20, "TWO begin at two PEGS, by two LAWS, each with THREAD of her own; they step in turn, the first one "
            + "first, each to PEGS to which neither has been (the other one's first, too, is one)");
        // The eight others: even ones for the first, odd ones for the second.
        two(run(TEN), "0, 2, 1, 2", 5, 5, 9);
        two(run(NINE), "0, 2, 1, 2", 5, 4, 8);
        two(run("00;01"), "0, 0, 1, 0", 1, 1, NONE);
        two(run("00;01"), "1, 3, 0, 1", 1, 1, NONE);
        two(run("00;01;02"), "0, 0, 1, 0", 2, 1, 2);
        two(run("00;01;02"), "1, 0, 0, 0", 2, 1, 2);
        // The second's first is nearest to the first, and is none of hers, even before the second has stepped.
        two(run("00;01;05;06"), "0, 0, 1, 0", 2, 2, 3);
        // Just enough THREAD for each; what the one takes is not taken off the other one's.
        two(run("00;01;09;08").after("set(0, 1)"), "0, 0, 2, 0", 2, 2, 3);
        two(run("00;03;09;06").after("set(0, 3)"), "0, 0, 2, 0", 2, 2, 3);
        two(run("00;03;09;06").after("set(0, 2)"), "0, 0, 2, 0", 1, 1, NONE);
        two(run("00;03;09;06").after("set(0, 12)", "set(1, 9)"), "0, 0, 2, 0", 2, 2, 3);
        two(run("00;03;09;06").after("set(0, 11)", "set(1, 9)"), "0, 0, 2, 0", 1, 1, NONE);
        of(20, "TWO: PEGS of the first (what = 0), of the second (1)");
        two(run(TEN).after("hide(9, 1)"), "0, 2, 1, 2", 5, 4, 8);
    }

    private static void twoStay() {
        terms(20, "; who cannot go on stays (till the next turn); till neither can");
        // By the farthest she cannot go to 3 (8 of 7), till the second one has taken it; then 2 is the farthest.
        two(run("00;09;02;08").after("set(0, 7)"), "0, 1, 1, 0", 2, 2, 2);
        two(run("00;09;02;08").after("set(0, 8)"), "0, 1, 1, 0", 2, 2, 2);
        // The first stays for good, the second goes on alone.
        two(run("00;90;91;92").after("set(0, 3)"), "0, 0, 1, 0", 1, 3, 3);
        // The second stays for good, the first goes on alone.
        two(run("90;00;91;92").after("set(0, 3)"), "0, 0, 1, 0", 3, 1, 3);
        // She stays through all that there can be: eight steps of the other one.
        two(run(NINE + ";99").after("set(0, 8)"), "0, 2, 9, 0", 9, 1, 8);
        two(run(NINE + ";99").after("set(0, 8)"), "9, 0, 0, 2", 1, 9, 8);
        // The second stays two turns: the farthest is too far for her, till the first has taken 3, 4 and 5.
        two(run("90;00;02;91;92;93").after("set(0, 3)"), "0, 0, 1, 1", 4, 2, 2);
    }

    private static void lastStep() {
        terms(20, ": how many PEGS each has; the PEG of the last step (NONE: there was none).");
        two(run("00;01;02").after("set(0, 0)"), "0, 0, 1, 0", 1, 1, NONE);
        two(run("00;01;02").after("hide(2, 1)"), "0, 0, 1, 0", 1, 1, NONE);
        two(run("05;01;00").after("set(0, 1)"), "0, 0, 1, 0", 1, 2, 2);
        two(run("00;05;01").after("set(0, 1)"), "0, 0, 1, 0", 2, 1, 2);
        two(run("01;02;00").after("set(0, 1)"), "0, 0, 1, 0", 2, 1, 2);
        // PEG 0 is a step, too.
        two(run("00;01;02"), "1, 0, 2, 0", 2, 1, 0);
        of(20, ", the PEG of the last step (2; NONE).");
        two(run(TEN).after("set(0, 0)"), "8, 2, 9, 2", 1, 1, NONE);
        two(run(TEN).after("set(0, 7)"), "8, 2, 9, 2", 1, 1, NONE);
        two(run(TEN).after("set(0, 8)"), "8, 2, 9, 2", 2, 2, 1);
    }

    private static void twoRefused() {
        of(20, "BAD: also both at one; NOT: one is HIDDEN.");
        run("00;01;02").is("two(1, 0, 1, 1, 0)", BAD).is("two(3, 0, 1, 0, 0)", BAD).is("two(-1, 0, 1, 0, 0)", BAD)
            .is("two(0, 0, 3, 0, 0)", BAD).is("two(0, 0, -1, 0, 0)", BAD).is("two(0, 4, 1, 0, 0)", BAD)
            .is("two(0, -1, 1, 0, 0)", BAD).is("two(0, 0, 1, 4, 0)", BAD).is("two(0, 0, 1, -1, 0)", BAD)
            .is("two(0, 0, 1, 0, 3)", BAD).is("two(0, 0, 1, 0, -1)", BAD).is("two(3, 0, 3, 0, 0)", BAD);
        Run r = run("00;01;02").after("hide(1, 1)").is("two(1, 0, 0, 0, 0)", NOT).is("two(0, 0, 1, 0, 0)", NOT)
            .is("two(0, 0, 1, 0, 2)", NOT).is("two(1, 0, 1, 0, 0)", BAD).is("two(1, 0, 0, 0, 3)", BAD)
            .is("two(1, 4, 0, 0, 0)", BAD).is("two(1, 0, 0, 4, 0)", BAD).is("two(1, 0, 3, 0, 0)", BAD)
            .is("two(0, 0, 2, 0, 0)", 1);
        r.after("hide(0, 1)").is("two(0, 0, 1, 0, 0)", NOT);
        run("").is("two(0, 0, 1, 0, 0)", BAD);
        run("00").is("two(0, 0, 1, 0, 0)", BAD);
    }
}
