import java.math.BigInteger;

/** Boundary cases of promises 21 to 26: what was seen, flies and dew. */
final class EdgesOfSeen extends Edges {
    static void all() {
        seeing();
        forgetting();
        fitting();
        fittingShortWebs();
        telling();
        tellsNone();
        numberOfFlies();
        lots();
        reach();
        fliesRefused();
        dew();
        dewItems();
        dewRefused();
    }

    // ---- promises 21 and 22

    private static void seeing() {
        terms(21, "SEEN, 8 at most: who began at a PEG (0 to 9) was at a PEG (0 to 9) as the i-th (1 to 9).");
        run("").is("seen(0, 1, 0)", 1).is("seen(9, 9, 9)", 2).is("seen(0, 9, 9)", 3).is("seen(9, 1, 0)", 4);
        of(21, "SEEN more: how many.");
        Run r = run("");
        for (int n = 1; n <= 8; n++) {
            // The same may be seen again.
            r.is("seen(3, 2, 1)", n).is("count(6)", n);
        }
        of(21, "BAD; FULL.");
        run("").is("seen(10, 1, 0)", BAD).is("seen(-1, 1, 0)", BAD).is("seen(0, 0, 0)", BAD).is("seen(0, 10, 0)", BAD)
            .is("seen(0, -1, 0)", BAD).is("seen(0, 1, 10)", BAD).is("seen(0, 1, -1)", BAD)
            .is(call("seen", MOST, 1, 0), BAD).is(call("seen", 0, LEAST, 0), BAD).is(call("seen", 0, 1, MOST), BAD)
            .is("count(6)", 0);
        Run full = run(TEN);
        for (int n = 0; n < 8; n++) {
            full.after("seen(0, 1, 1)");
        }
        full.is("seen(0, 1, 9)", FULL).is("count(6)", 8).is("fits()", 13).is("seen(0, 0, 1)", BAD)
            .is("seen(10, 1, 1)", BAD).is("seen(0, 1, 10)", BAD).is("forget()", 8).is("seen(0, 1, 9)", 1)
            .is("fits()", 2);
    }

    private static void forgetting() {
        of(22, "All SEEN are forgotten: how many.");
        run("").is("forget()", 0).is("forget()", 0);
        run("").after("seen(0, 1, 1)").is("forget()", 1).is("count(6)", 0).is("forget()", 0);
        Run full = run("");
        for (int n = 1; n <= 8; n++) {
            full.after("seen(0, 1, 1)");
        }
        full.is("fits()", 0).is("forget()", 8).is("fits()", 15).is("forget()", 0);
        // Neither the text nor a FINDING forgets what was SEEN.
        run("00").after("seen(0, 1, 1)", "wipe()", "lose(0)").is("count(6)", 1).is("forget()", 1);
    }

    // ---- promise 23

    private static void fitting() {
        terms(23, "FITS: LAWS by which all that was SEEN comes out so");
        run("").is("fits()", 15);
        run(TEN).is("fits()", 15);
        // From 0 by the farthest it is 0918273645, by all others 0123456789.
        run(TEN).after("seen(0, 9, 9)").is("fits()", 13).after("seen(0, 9, 5)").is("fits()", 0);
        run(TEN).after("seen(0, 9, 5)").is("fits()", 2);
        run(TEN).after("seen(0, 1, 1)").is("fits()", 13).after("seen(0, 2, 1)").is("fits()", 0);
        // From 9 by the nearest 9876543210, by the farthest 9081726354, by the others 9012345678.
        run(TEN).after("seen(9, 9, 0)").is("fits()", 1);
        run(TEN).after("seen(9, 1, 0)").is("fits()", 14).after("seen(9, 9, 8)").is("fits()", 12);
        // No one is again where she began.
        run(TEN).after("seen(0, 1, 0)").is("fits()", 0);
        // The first that was SEEN counts, and so does the eighth.
        Run r = run(TEN).after("seen(0, 1, 9)");
        for (int n = 0; n < 6; n++) {
            r.after("seen(9, 1, 0)");
        }
        r.is("fits()", 2).after("seen(0, 9, 9)").is("count(6)", 8).is("fits()", 0);
        of(23, "FITS, as bits.");
        run("00").is("fits()", 15).after("seen(0, 1, 0)").is("fits()", 0);
    }

    private static void fittingShortWebs() {
        terms(23, " (of WEBS with so many PEGS), as bits.");
        // Just so many, and one fewer: by THREAD, by HUNGER, by a HIDDEN one, by PEGS.
        run(TEN).after("seen(0, 9, 9)", "set(0, 9)").is("fits()", 13).after("set(0, 8)").is("fits()", 0);
        run(TEN).after("seen(0, 9, 9)", "set(1, 9)", "set(0, 90)").is("fits()", 13).after("set(0, 89)")
            .is("fits()", 0);
        run(TEN).after("seen(0, 9, 9)", "hide(5, 1)").is("fits()", 0).after("hide(5, 0)").is("fits()", 13);
        run(NINE).after("seen(0, 8, 8)").is("fits()", 13).after("seen(0, 9, 9)").is("fits()", 0);
        run("00;01").after("seen(0, 1, 1)").is("fits()", 15).after("seen(0, 2, 0)").is("fits()", 0);
        // Of a PEG that is HIDDEN, or not there, there is no WEB: so nothing comes out so.
        run("00;01").after("seen(0, 1, 1)", "hide(0, 1)").is("fits()", 0).after("hide(0, 0)").is("fits()", 15);
        run("00;01").after("seen(2, 1, 1)").is("fits()", 0);
        run("00;01").after("seen(9, 9, 9)").is("fits()", 0);
        run("").after("seen(0, 1, 1)").is("fits()", 0).type("00;01").is("fits()", 15);
        run("00;01").after("seen(0, 1, 1)", "type(59)").is("fits()", 0).after("undo()").is("fits()", 15);
    }

    // ---- promise 24

    private static void telling() {
        terms(24, "TELLS: the PEG (not HIDDEN) from which LAWS that FIT lay the most unlike WEBS "
            + "(where none FITS: 0 from each), of like ones the least");
        // From each there is the one row of one PEG.
        run("55").is("tells()", 0);
        run(TEN).after("set(0, 0)").is("tells()", 0).after("hide(0, 1)").is("tells()", 1);
        // By numbers and by rows it is one and the same; from 0, too, by the nearest; from 1 she goes to 0 by it.
        run(TEN).is("tells()", 1).after("hide(1, 1)").is("tells()", 3);
        // All four are unlike from 3 alone: 3102, 3210, 3012, 3201; from the others there are 3, 3, 2.
        run("63;64;50;75").web(3, 0, "3102").web(3, 1, "3210").web(3, 2, "3012").web(3, 3, "3201").is("tells()", 3);
        // One that ends sooner is unlike: from 0 each is 0; from 1 they are 12, 1, 12, 12.
        run("99;00;01").after("set(0, 1)").web(1, 0, "12").web(1, 1, "1").is("tells()", 1);
        // One LAW alone lays one WEB from each.
        run(TEN).after("seen(0, 1, 9)").is("fits()", 2).is("tells()", 0).after("hide(1, 1)", "hide(0, 1)")
            .is("fits()", 0).is("tells()", 2);
        // Farthest and numbers FIT: 012 012, 102 120, 201 201.
        run("00;02;01").is("tells()", 0).after("seen(2, 1, 0)", "seen(0, 1, 1)").is("fits()", 6).is("tells()", 1)
            .after("hide(1, 1)").is("fits()", 0).is("tells()", 0);
        terms(24, "(where none FITS: 0 from each), of like ones the least");
        run(TEN).after("seen(0, 1, 0)").is("fits()", 0).is("tells()", 0).after("hide(0, 1)").is("tells()", 1);
        Run last = run(TEN).after("seen(0, 1, 0)").fill(0, 0, 1, 1, 1, 1, 1, 1, 1, 1, 1).after("read(0)");
        last.is("tells()", 9);
        of(24, "TELLS; NONE.");
        run("55").after("seen(0, 1, 1)").is("fits()", 0).is("tells()", 0);
    }

    private static void tellsNone() {
        terms(24, "; NONE: there are no such PEGS.");
        run("").is("tells()", NONE);
        run("").after("seen(0, 1, 1)").is("tells()", NONE);
        run("00;01").after("hide(0, 1)", "hide(1, 1)").is("tells()", NONE).after("hide(0, 0)").is("tells()", 0);
        run("00;01;").is("tells()", NONE);
    }

    // ---- promise 25

    private static void numberOfFlies() {
        terms(25, "FLIES by a SEED: n (0 to 99) fly one by one each to an x by a LOT of 10, then a y by a LOT of 10: "
            + "how many are caught");
        int[] seeds = {0, 1, -1, 7, LEAST, MOST, 12345678};
        for (int seed : seeds) {
            Run r = run("55").after("set(2, 9)").is(call("flies", 0, 0, seed, 0), 0);
            int far = 0;
            BigInteger now = BigInteger.valueOf(seed);
            for (int n = 1; n <= 99; n++) {
                int[] place = new int[2];
                now = fly(now, place);
                // Of all places but 0 0 is farther than 9 from 5 5.
                far += place[0] + place[1] == 0 ? 1 : 0;
                r.is(call("flies", 0, 0, seed, n), n - far);
            }
        }
    }

    /** A fly's place by two lots, reckoned without a number that wraps; answers the seed behind it. */
    private static BigInteger fly(BigInteger seed, int[] place) {
        BigInteger now = seed;
        for (int k = 0; k < 2; k++) {
            now = now.multiply(BigInteger.valueOf(1103515245)).add(BigInteger.valueOf(12345))
                .mod(BigInteger.ONE.shiftLeft(32));
            place[k] = now.shiftRight(16).mod(BigInteger.TEN).intValue();
        }
        return now;
    }

    private static void lots() {
        terms(25, "LOTS of m: SEED becomes 1103515245 SEED and 12345, as ints that wrap; its upper 16 bits as a "
            + "number from 0 on, modulo m.");
        // A seed, and the place of its first fly, reckoned without a computer's ints; upper bits of both kinds.
        int[][] known = {{0, 0, 6}, {1, 8, 6}, {-1, 7, 9}, {LEAST, 8, 8}, {MOST, 9, 7}, {7, 2, 6}, {-5, 0, 1}};
        for (int[] k : known) {
            int[] place = new int[2];
            fly(BigInteger.valueOf(k[0]), place);
            due("x of the first fly by " + k[0], place[0], k[1]);
            due("y of the first fly by " + k[0], place[1], k[2]);
            for (int x = 0; x < 10; x++) {
                Run r = run("").after("set(2, 0)");
                for (int y = 0; y < 10; y++) {
                    r.after("wipe()").type("" + x + y)
                        .is(call("flies", 0, 0, k[0], 1), x == k[1] && y == k[2] ? 1 : 0);
                }
            }
        }
    }

    private static void reach() {
        terms(25, ": no farther than REACH (0 to 9; 1 at first) from a PEG of the WEB.");
        // The first fly by 0 comes to 0 6: these are so far from it.
        int[][] places = {{0, 6, 0}, {0, 7, 1}, {1, 6, 1}, {0, 4, 2}, {4, 7, 5}, {8, 6, 8}, {9, 6, 9}, {5, 2, 9}};
        for (int[] p : places) {
            Run r = run("" + p[0] + p[1]);
            for (int reach = 0; reach < 10; reach++) {
                r.after(call("set", 2, reach)).is("flies(0, 0, 0, 1)", p[2] <= reach ? 1 : 0);
            }
        }
        run("90").after("set(2, 9)").is("flies(0, 0, 0, 1)", 0);
        run("07").is("flies(0, 0, 0, 1)", 1);
        run("17").is("flies(0, 0, 0, 1)", 0);
        // A PEG of the frame that is not of the WEB catches none: by THREAD, as HIDDEN.
        Run r = run("90;06").is("flies(0, 0, 0, 1)", 1).after("set(0, 15)").is("flies(0, 0, 0, 1)", 1);
        r.after("set(0, 14)").is("flies(0, 0, 0, 1)", 0);
        run("90;06").after("hide(1, 1)").is("flies(0, 0, 0, 1)", 0);
        // Near two PEGS, a fly is one.
        run("06;07;16").is("flies(0, 0, 0, 1)", 1);
    }

    private static void fliesRefused() {
        of(25, "FLIES. BAD; NOT.");
        run("08").is("flies(0, 0, 0, 100)", BAD).is("flies(0, 0, 0, -1)", BAD).is(call("flies", 0, 0, 0, MOST), BAD)
            .is(call("flies", 0, 0, 0, LEAST), BAD).is("flies(1, 0, 0, 1)", BAD).is("flies(-1, 0, 0, 1)", BAD)
            .is("flies(0, 4, 0, 1)", BAD).is("flies(0, -1, 0, 1)", BAD).after("hide(0, 1)")
            .is("flies(0, 0, 0, 1)", NOT).is("flies(0, 0, 0, 0)", NOT).is("flies(0, 0, 0, 100)", BAD)
            .is("flies(0, 4, 0, 1)", BAD);
        run("").is("flies(0, 0, 0, 0)", BAD);
    }

    // ---- promise 26

    private static void dew() {
        terms(26, ": a thread tears, if they are more than it is long: the first that tears; NONE.");
        run("00;01").fill(0, 0, 1).is("dew(0, 0, 0)", NONE).after("put(0, 0, 0, 2)").is("dew(0, 0, 0)", 0);
        run("00;99").fill(0, 0, 18).is("dew(0, 0, 0)", NONE).after("put(0, 0, 0, 19)").is("dew(0, 0, 0)", 0);
        run("00;03;07").fill(0, 2, 3, 4).is("dew(0, 2, 0)", NONE);
        run("00;03;07").fill(0, 2, 3, 5).is("dew(0, 2, 0)", 1);
        run("00;03;07").fill(0, 2, 4, 5).is("dew(0, 2, 0)", 0);
        run("00;03;07").fill(0, 2, 4, 4).is("dew(0, 2, 0)", 0);
        // HUNGER makes no thread longer.
        run("00;01").after("set(1, 9)").fill(0, 0, 2).is("dew(0, 0, 0)", 0);
        // Fewer than none tear nothing; so many as an int holds tear all.
        run("00;01").fill(0, 2, LEAST).is("dew(0, 0, 0)", NONE).after("put(0, 2, 0, -1)").is("dew(0, 0, 0)", NONE);
        run("00;01").fill(0, 2, MOST).is("dew(0, 0, 0)", 0);
        // 200 as a byte is -56, as a short 200.
        run("00;01").fill(0, 0, 200).is("dew(0, 0, 0)", NONE).fill(1, 1, 200).is("dew(0, 0, 1)", 0);
        of(26, "DEW; NONE.");
        run("00;01").fill(3, 0, 0).is("dew(0, 0, 3)", NONE).fill(3, 0, 2).is("dew(0, 0, 3)", 0);
    }

    private static void dewItems() {
        terms(26, "DEW: of a told SHEET's items, each for a thread of the WEB (0 on), how many drops hang on it");
        // No items; items and no thread; more items than threads; more threads than items.
        run("00;01").after("sheet(0, 0, 0)").is("dew(0, 0, 0)", NONE);
        run("00").fill(0, 0, 99).is("dew(0, 0, 0)", NONE);
        run("00;01").fill(0, 0, 99).after("set(0, 0)").is("dew(0, 0, 0)", NONE);
        run("00;01").fill(0, 0, 1, 99, 99).is("dew(0, 0, 0)", NONE);
        run("00;01;02").fill(0, 0, 1).is("dew(0, 0, 0)", NONE);
        run("00;01;02").fill(0, 0, 1, 99).fill(0, 0, 1).is("dew(0, 0, 0)", NONE);
        // Ten PEGS have nine threads: 0 to 8.
        run(TEN).fill(0, 0, 1, 1, 1, 1, 1, 1, 1, 1, 2).is("dew(0, 0, 0)", 8);
        run(TEN).fill(0, 0, 1, 1, 1, 1, 1, 1, 1, 1, 1, 2).is("dew(0, 0, 0)", NONE);
        run(TEN).fill(0, 0, 1, 1, 1, 1, 1, 1, 1, 1, 2).after("set(0, 8)").is("dew(0, 0, 0)", NONE);
        run(TEN).after("sheet(0, 2, 48)", "put(0, 2, 47, 99)").is("dew(0, 0, 0)", NONE);
        // The thread from 9 to 0 is 9 long, and comes first from 9.
        run(TEN).fill(0, 0, 9, 1).is("dew(9, 2, 0)", NONE).is("dew(0, 2, 0)", 0);
    }

    private static void dewRefused() {
        of(26, "BAD; NULL; NOT.");
        run("00;01").is("dew(0, 0, 4)", BAD).is("dew(0, 0, -1)", BAD).is("dew(2, 0, 0)", BAD).is("dew(-1, 0, 0)", BAD)
            .is("dew(0, 4, 0)", BAD).is("dew(0, -1, 0)", BAD).is("count(8)", 0).is("dew(0, 0, 0)", NULL)
            .is("count(8)", 1);
        Run r = run("00;01").after("hide(0, 1)").is("dew(0, 0, 0)", NULL).is("count(8)", 1);
        r.after("sheet(0, 0, 0)").is("dew(0, 0, 0)", NOT).is("dew(0, 4, 0)", BAD).is("dew(0, 0, 4)", BAD)
            .is("dew(1, 0, 0)", NONE);
        run("").is("dew(0, 0, 0)", BAD).is("count(8)", 0);
    }
}
